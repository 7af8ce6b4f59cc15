/-! by program: the methods as functions, and the walks that show it -/
def J_X12_yardsAll_31 (N : Nat) (k4 : Int → Int → Hp → Option (Int × Hp)) (x2 : Int) (s0 : Int) (s1 : Int) (h : Hp) : Option (Int × Hp) :=
  bnd ((w32 (s0 + s1))) fun y1 =>
  bnd (w32 (x2 + 1)) fun y2 =>
  k4 y1 y2 h
set_option maxRecDepth 100000 in
set_option maxHeartbeats 4000000 in
theorem R_J_X12_yardsAll_31 (N : Nat) (k4 : Int → Int → Hp → Option (Int × Hp)) (hk4 : ∀ (x1 : Int) (x2 : Int) (h : Hp) (res : Int × Hp), k4 x1 x2 h = some res → Go M_X12_yardsAll 3 4 [some (.inr 84), some (.inl x1), some (.inl x2)] [] h (Qi res)) (x2 : Int) (s0 : Int) (s1 : Int) (h : Hp) (res : Int × Hp) (H : J_X12_yardsAll_31 N k4 x2 s0 s1 h = some res) : Go M_X12_yardsAll 3 31 [some (.inr 84), none, some (.inl x2)] [.inl s1, .inl s0] h (Qi res) := by
  unfold J_X12_yardsAll_31 at H
  refine g_iadd (T_X12_yardsAll 20 _ _ _ rfl) ?_
  refine g_bndI H fun y1 H => ?_
  refine g_istore_n (T_X12_yardsAll 21 _ _ _ rfl) (by decide) ?_
  refine g_iincB (T_X12_yardsAll 22 _ _ _ rfl) rfl (by decide) H fun y2 H => ?_
  refine g_goto (tgt := 4) (T_X12_yardsAll 23 _ _ _ rfl) (by decide) ?_
  refine g_weak [true, true, true] ?_
  exact hk4 _ _ _ _ H
def L_X12_yardsAll_4 (N : Nat) : Nat → Int → Int → Hp → Option (Int × Hp)
  | 0, _, _, _ => none
  | n + 1, x1, x2, h =>
    if 14 ≤ x2 then
      some (x1, h)
    else
    bd (F_X12_isStreet N x2 h) fun y2 h1 =>
    if y2 = 0 then
      J_X12_yardsAll_31 N (L_X12_yardsAll_4 N n) x2 x1 0 h1
    else
    grd (0 ≤ (w32 (0 + x2)) ∧ (w32 (0 + x2)) < 17) <|
    J_X12_yardsAll_31 N (L_X12_yardsAll_4 N n) x2 x1 (h1 84 (w32 (0 + x2)).toNat) h1
set_option maxRecDepth 100000 in
set_option maxHeartbeats 4000000 in
theorem R_L_X12_yardsAll_4 (N : Nat) : ∀ (n : Nat) (x1 : Int) (x2 : Int) (h : Hp) (res : Int × Hp), L_X12_yardsAll_4 N n x1 x2 h = some res → Go M_X12_yardsAll 3 4 [some (.inr 84), some (.inl x1), some (.inl x2)] [] h (Qi res)
  | 0, _, _, _, _, H => by cases H
  | n + 1, x1, x2, h, res, H => by
    have ih := R_L_X12_yardsAll_4 N n
    simp only [L_X12_yardsAll_4] at H
    refine g_iload_n (T_X12_yardsAll 4 _ _ _ rfl) rfl ?_
    refine g_bipush (T_X12_yardsAll 5 _ _ _ rfl) (by decide) ?_
    refine g_icmp_ge (tgt := 39) (T_X12_yardsAll 6 _ _ _ rfl) (by decide) (fun cc => ?_) (fun cc => ?_)
    · replace H := ite_p cc H
      refine g_iload_n (T_X12_yardsAll 24 _ _ _ rfl) rfl ?_
      exact g_iret (T_X12_yardsAll 25 _ _ _ rfl) rfl (qi_of H)
    · replace H := ite_n cc H
      refine g_iload_n (T_X12_yardsAll 7 _ _ _ rfl) rfl ?_
      refine g_aload_n (T_X12_yardsAll 8 _ _ _ rfl) rfl ?_
      refine g_iload_n (T_X12_yardsAll 9 _ _ _ rfl) rfl ?_
      obtain ⟨y2, h1, hq, H⟩ := bd_some H
      refine g_callVi (M' := M_X12_isStreet) (c := 83) (av := [.inl x2]) (st := [.inl x1]) (T_X12_yardsAll 10 _ _ _ rfl) ml_X12_146 cb_X12_isStreet rfl rfl (Nat.le_of_ble_eq_true rfl) (by omega) (R_X12_isStreet N _ _ _ hq) ?_
      refine g_if_eq (tgt := 30) (T_X12_yardsAll 11 _ _ _ rfl) (by decide) (fun cc => ?_) (fun cc => ?_)
      · replace H := ite_p cc H
        refine g_iconst (T_X12_yardsAll 19 _ _ _ rfl) ⟨by decide, by decide⟩ ?_
        refine g_weak [true, false, true] ?_
        exact R_J_X12_yardsAll_31 N (L_X12_yardsAll_4 N n) ih _ _ _ _ _ H
      · replace H := ite_n cc H
        refine g_aload_n (T_X12_yardsAll 12 _ _ _ rfl) rfl ?_
        refine g_getR (c := 83) (r := 85) (T_X12_yardsAll 13 _ _ _ rfl) fl_X12_7 rfl (nR rfl) rfl (by decide) ?_
        refine g_iconst (T_X12_yardsAll 14 _ _ _ rfl) ⟨by decide, by decide⟩ ?_
        refine g_iload_n (T_X12_yardsAll 15 _ _ _ rfl) rfl ?_
        refine g_iadd (T_X12_yardsAll 16 _ _ _ rfl) ?_
        obtain ⟨hg, H⟩ := grd_some H
        refine g_iald (c := 84) (T_X12_yardsAll 17 _ _ _ rfl) rfl hg ?_
        refine g_goto (tgt := 31) (T_X12_yardsAll 18 _ _ _ rfl) (by decide) ?_
        refine g_weak [true, false, true] ?_
        exact R_J_X12_yardsAll_31 N (L_X12_yardsAll_4 N n) ih _ _ _ _ _ H
def F_X12_yardsAll (N : Nat) (h : Hp) : Option (Int × Hp) :=
  L_X12_yardsAll_4 N  N 0 0 h
set_option maxRecDepth 100000 in
set_option maxHeartbeats 4000000 in
theorem R_X12_yardsAll (N : Nat) (h : Hp) (res : Int × Hp) (H : F_X12_yardsAll N h = some res) : Runs M_X12_yardsAll 3 [.inr 84] h (Qi res) := by
  refine Runs.of rfl (Nat.le_of_ble_eq_true rfl) ?_
  show Go M_X12_yardsAll 3 0 [some (.inr 84), none, none] [] h (Qi res)
  unfold F_X12_yardsAll at H
  refine g_iconst (T_X12_yardsAll 0 _ _ _ rfl) ⟨by decide, by decide⟩ ?_
  refine g_istore_n (T_X12_yardsAll 1 _ _ _ rfl) (by decide) ?_
  refine g_iconst (T_X12_yardsAll 2 _ _ _ rfl) ⟨by decide, by decide⟩ ?_
  refine g_istore_n (T_X12_yardsAll 3 _ _ _ rfl) (by decide) ?_
  refine g_weak [true, true, true] ?_
  refine R_L_X12_yardsAll_4 N   _ _ _ _ _ H
def J_X12_nights_111 (N : Nat) (x2 : Int) (h : Hp) : Option (Int × Hp) :=
  some ((w32 ((h 84 (15 : Int).toNat) - x2)), h)
set_option maxRecDepth 100000 in
set_option maxHeartbeats 4000000 in
theorem R_J_X12_nights_111 (N : Nat) (x2 : Int) (h : Hp) (res : Int × Hp) (H : J_X12_nights_111 N x2 h = some res) : Go M_X12_nights 7 111 [some (.inr 84), none, some (.inl x2), none, none] [] h (Qi res) := by
  unfold J_X12_nights_111 at H
  refine g_aload_n (T_X12_nights 62 _ _ _ rfl) rfl ?_
  refine g_getR (c := 83) (r := 85) (T_X12_nights 63 _ _ _ rfl) fl_X12_7 rfl (nR rfl) rfl (by decide) ?_
  refine g_bipush (T_X12_nights 64 _ _ _ rfl) (by decide) ?_
  refine g_iald (c := 84) (T_X12_nights 65 _ _ _ rfl) rfl (by decide) ?_
  refine g_iload_n (T_X12_nights 66 _ _ _ rfl) rfl ?_
  refine g_isub (T_X12_nights 67 _ _ _ rfl) ?_
  exact g_iret (T_X12_nights 68 _ _ _ rfl) rfl (qi_of H)
def L_X12_nights_66 (N : Nat) (k89 : Int → Int → Int → Hp → Option (Int × Hp)) : Nat → Int → Int → Int → Int → Hp → Option (Int × Hp)
  | 0, _, _, _, _, _ => none
  | n + 1, x1, x2, x3, x4, h =>
    if 14 ≤ x4 then
      k89 x1 x2 x3 h
    else
    grd (0 ≤ (w32 (0 + x4)) ∧ (w32 (0 + x4)) < 17) <|
    bnd (hw h 84 (w32 (0 + x4)).toNat 0) fun h1 =>
    bnd (w32 (x4 + 1)) fun y2 =>
    (L_X12_nights_66 N k89 n) x1 x2 x3 y2 h1
set_option maxRecDepth 100000 in
set_option maxHeartbeats 4000000 in
theorem R_L_X12_nights_66 (N : Nat) (k89 : Int → Int → Int → Hp → Option (Int × Hp)) (hk89 : ∀ (x1 : Int) (x2 : Int) (x3 : Int) (h : Hp) (res : Int × Hp), k89 x1 x2 x3 h = some res → Go M_X12_nights 7 89 [some (.inr 84), some (.inl x1), some (.inl x2), some (.inl x3), none] [] h (Qi res)) : ∀ (n : Nat) (x1 : Int) (x2 : Int) (x3 : Int) (x4 : Int) (h : Hp) (res : Int × Hp), L_X12_nights_66 N k89 n x1 x2 x3 x4 h = some res → Go M_X12_nights 7 66 [some (.inr 84), some (.inl x1), some (.inl x2), some (.inl x3), some (.inl x4)] [] h (Qi res)
  | 0, _, _, _, _, _, _, H => by cases H
  | n + 1, x1, x2, x3, x4, h, res, H => by
    have ih := R_L_X12_nights_66 N k89 hk89 n
    simp only [L_X12_nights_66] at H
    refine g_iload (T_X12_nights 38 _ _ _ rfl) rfl ?_
    refine g_bipush (T_X12_nights 39 _ _ _ rfl) (by decide) ?_
    refine g_icmp_ge (tgt := 89) (T_X12_nights 40 _ _ _ rfl) (by decide) (fun cc => ?_) (fun cc => ?_)
    · replace H := ite_p cc H
      refine g_weak [true, true, true, true, false] ?_
      exact hk89 _ _ _ _ _ H
    · replace H := ite_n cc H
      refine g_aload_n (T_X12_nights 41 _ _ _ rfl) rfl ?_
      refine g_getR (c := 83) (r := 85) (T_X12_nights 42 _ _ _ rfl) fl_X12_7 rfl (nR rfl) rfl (by decide) ?_
      refine g_iconst (T_X12_nights 43 _ _ _ rfl) ⟨by decide, by decide⟩ ?_
      refine g_iload (T_X12_nights 44 _ _ _ rfl) rfl ?_
      refine g_iadd (T_X12_nights 45 _ _ _ rfl) ?_
      refine g_iconst (T_X12_nights 46 _ _ _ rfl) ⟨by decide, by decide⟩ ?_
      obtain ⟨hg, H⟩ := grd_some H
      refine g_iast (c := 84) (T_X12_nights 47 _ _ _ rfl) rfl hg ?_
      refine g_bndH H fun h1 H => ?_
      refine g_iincB (T_X12_nights 48 _ _ _ rfl) rfl (by decide) H fun y2 H => ?_
      refine g_goto (tgt := 66) (T_X12_nights 49 _ _ _ rfl) (by decide) ?_
      refine g_weak [true, true, true, true, true] ?_
      exact ih _ _ _ _ _ _ H
def L_X12_nights_22 (N : Nat) : Nat → Int → Int → Int → Hp → Option (Int × Hp)
  | 0, _, _, _, _ => none
  | n + 1, x1, x2, x3, h =>
    if x1 ≤ x3 then
      J_X12_nights_111 N  x2 h
    else
    if 9999 ≤ (h 84 (14 : Int).toNat) then
      J_X12_nights_111 N  x2 h
    else
    bv (F_X12_goesNight N h) fun h1 =>
    bd (F_X12_yardsAll N h1) fun y3 h2 =>
    bnd (hw h2 84 (16 : Int).toNat (w32 ((h1 84 (16 : Int).toNat) + y3))) fun h4 =>
    L_X12_nights_66 N (fun (v5 : Int) (v6 : Int) (v7 : Int) (h8 : Hp) =>
      bnd (hw h8 84 (14 : Int).toNat (w32 ((h8 84 (14 : Int).toNat) + 1))) fun h9 =>
      bnd (w32 (v7 + 1)) fun y10 =>
      (L_X12_nights_22 N n) v5 v6 y10 h9) N x1 x2 x3 0 h4
set_option maxRecDepth 100000 in
set_option maxHeartbeats 4000000 in
theorem R_L_X12_nights_22 (N : Nat) : ∀ (n : Nat) (x1 : Int) (x2 : Int) (x3 : Int) (h : Hp) (res : Int × Hp), L_X12_nights_22 N n x1 x2 x3 h = some res → Go M_X12_nights 7 22 [some (.inr 84), some (.inl x1), some (.inl x2), some (.inl x3), none] [] h (Qi res)
  | 0, _, _, _, _, _, H => by cases H
  | n + 1, x1, x2, x3, h, res, H => by
    have ih := R_L_X12_nights_22 N n
    simp only [L_X12_nights_22] at H
    refine g_iload_n (T_X12_nights 14 _ _ _ rfl) rfl ?_
    refine g_iload_n (T_X12_nights 15 _ _ _ rfl) rfl ?_
    refine g_icmp_ge (tgt := 111) (T_X12_nights 16 _ _ _ rfl) (by decide) (fun cc => ?_) (fun cc => ?_)
    · replace H := ite_p cc H
      refine g_weak [true, false, true, false, false] ?_
      exact R_J_X12_nights_111 N   _ _ _ H
    · replace H := ite_n cc H
      refine g_aload_n (T_X12_nights 17 _ _ _ rfl) rfl ?_
      refine g_getR (c := 83) (r := 85) (T_X12_nights 18 _ _ _ rfl) fl_X12_7 rfl (nR rfl) rfl (by decide) ?_
      refine g_bipush (T_X12_nights 19 _ _ _ rfl) (by decide) ?_
      refine g_iald (c := 84) (T_X12_nights 20 _ _ _ rfl) rfl (by decide) ?_
      refine g_sipush (T_X12_nights 21 _ _ _ rfl) (by decide) ?_
      refine g_icmp_ge (tgt := 111) (T_X12_nights 22 _ _ _ rfl) (by decide) (fun cc => ?_) (fun cc => ?_)
      · replace H := ite_p cc H
        refine g_weak [true, false, true, false, false] ?_
        exact R_J_X12_nights_111 N   _ _ _ H
      · replace H := ite_n cc H
        refine g_aload_n (T_X12_nights 23 _ _ _ rfl) rfl ?_
        obtain ⟨h1, hq, H⟩ := bv_some H
        refine g_callVv (M' := M_X12_goesNight) (c := 83) (av := []) (st := []) (T_X12_nights 24 _ _ _ rfl) ml_X12_329 cb_X12_goesNight rfl rfl (Nat.le_of_ble_eq_true rfl) (by omega) (R_X12_goesNight N _ _ hq) ?_
        refine g_aload_n (T_X12_nights 25 _ _ _ rfl) rfl ?_
        refine g_getR (c := 83) (r := 85) (T_X12_nights 26 _ _ _ rfl) fl_X12_7 rfl (nR rfl) rfl (by decide) ?_
        refine g_bipush (T_X12_nights 27 _ _ _ rfl) (by decide) ?_
        refine g_aload_n (T_X12_nights 28 _ _ _ rfl) rfl ?_
        refine g_getR (c := 83) (r := 85) (T_X12_nights 29 _ _ _ rfl) fl_X12_7 rfl (nR rfl) rfl (by decide) ?_
        refine g_bipush (T_X12_nights 30 _ _ _ rfl) (by decide) ?_
        refine g_iald (c := 84) (T_X12_nights 31 _ _ _ rfl) rfl (by decide) ?_
        refine g_aload_n (T_X12_nights 32 _ _ _ rfl) rfl ?_
        obtain ⟨y3, h2, hq, H⟩ := bd_some H
        refine g_callVi (M' := M_X12_yardsAll) (c := 83) (av := []) (st := [.inl (h1 84 (16 : Int).toNat), .inl 16, .inr 85]) (T_X12_nights 33 _ _ _ rfl) ml_X12_332 cb_X12_yardsAll rfl rfl (Nat.le_of_ble_eq_true rfl) (by omega) (R_X12_yardsAll N _ _ hq) ?_
        refine g_iadd (T_X12_nights 34 _ _ _ rfl) ?_
        refine g_iast (c := 84) (T_X12_nights 35 _ _ _ rfl) rfl (by decide) ?_
        refine g_bndH H fun h4 H => ?_
        refine g_iconst (T_X12_nights 36 _ _ _ rfl) ⟨by decide, by decide⟩ ?_
        refine g_istore (T_X12_nights 37 _ _ _ rfl) (by decide) ?_
        refine g_weak [true, true, true, true, true] ?_
        refine R_L_X12_nights_66 N _ (fun v5 v6 v7 h8 res H => ?_) _ _ _ _ _ _ _ H
        · refine g_aload_n (T_X12_nights 50 _ _ _ rfl) rfl ?_
          refine g_getR (c := 83) (r := 85) (T_X12_nights 51 _ _ _ rfl) fl_X12_7 rfl (nR rfl) rfl (by decide) ?_
          refine g_bipush (T_X12_nights 52 _ _ _ rfl) (by decide) ?_
          refine g_aload_n (T_X12_nights 53 _ _ _ rfl) rfl ?_
          refine g_getR (c := 83) (r := 85) (T_X12_nights 54 _ _ _ rfl) fl_X12_7 rfl (nR rfl) rfl (by decide) ?_
          refine g_bipush (T_X12_nights 55 _ _ _ rfl) (by decide) ?_
          refine g_iald (c := 84) (T_X12_nights 56 _ _ _ rfl) rfl (by decide) ?_
          refine g_iconst (T_X12_nights 57 _ _ _ rfl) ⟨by decide, by decide⟩ ?_
          refine g_iadd (T_X12_nights 58 _ _ _ rfl) ?_
          refine g_iast (c := 84) (T_X12_nights 59 _ _ _ rfl) rfl (by decide) ?_
          refine g_bndH H fun h9 H => ?_
          refine g_iincB (T_X12_nights 60 _ _ _ rfl) rfl (by decide) H fun y10 H => ?_
          refine g_goto (tgt := 22) (T_X12_nights 61 _ _ _ rfl) (by decide) ?_
          refine g_weak [true, true, true, true, false] ?_
          exact ih _ _ _ _ _ H
def F_X12_nights (N : Nat) (x1 : Int) (h : Hp) : Option (Int × Hp) :=
  bd (F_X12_in N x1 1 20 h) fun y2 h1 =>
  if y2 = 0 then
    some ((-1), h1)
  else
  bnd ((h1 84 (15 : Int).toNat)) fun y3 =>
  L_X12_nights_22 N  N x1 y3 0 h1
set_option maxRecDepth 100000 in
set_option maxHeartbeats 4000000 in
theorem R_X12_nights (N : Nat) (x1 : Int) (h : Hp) (res : Int × Hp) (H : F_X12_nights N x1 h = some res) : Runs M_X12_nights 7 [.inr 84, .inl x1] h (Qi res) := by
  refine Runs.of rfl (Nat.le_of_ble_eq_true rfl) ?_
  show Go M_X12_nights 7 0 [some (.inr 84), some (.inl x1), none, none, none] [] h (Qi res)
  unfold F_X12_nights at H
  refine g_iload_n (T_X12_nights 0 _ _ _ rfl) rfl ?_
  refine g_iconst (T_X12_nights 1 _ _ _ rfl) ⟨by decide, by decide⟩ ?_
  refine g_bipush (T_X12_nights 2 _ _ _ rfl) (by decide) ?_
  obtain ⟨y2, h1, hq, H⟩ := bd_some H
  refine g_callSi (M' := M_X12_in) (av := [.inl x1, .inl 1, .inl 20]) (st := []) (T_X12_nights 3 _ _ _ rfl) ml_X12_155 cb_X12_in rfl (Nat.le_of_ble_eq_true rfl) (by omega) (R_X12_in N _ _ _ _ _ hq) ?_
  refine g_if_ne (tgt := 12) (T_X12_nights 4 _ _ _ rfl) (by decide) (fun cc => ?_) (fun cc => ?_)
  · replace H := ite_n cc H
    refine g_aload_n (T_X12_nights 7 _ _ _ rfl) rfl ?_
    refine g_getR (c := 83) (r := 85) (T_X12_nights 8 _ _ _ rfl) fl_X12_7 rfl (nR rfl) rfl (by decide) ?_
    refine g_bipush (T_X12_nights 9 _ _ _ rfl) (by decide) ?_
    refine g_iald (c := 84) (T_X12_nights 10 _ _ _ rfl) rfl (by decide) ?_
    refine g_bndI H fun y3 H => ?_
    refine g_istore_n (T_X12_nights 11 _ _ _ rfl) (by decide) ?_
    refine g_iconst (T_X12_nights 12 _ _ _ rfl) ⟨by decide, by decide⟩ ?_
    refine g_istore_n (T_X12_nights 13 _ _ _ rfl) (by decide) ?_
    refine g_weak [true, true, true, true, false] ?_
    refine R_L_X12_nights_22 N   _ _ _ _ _ _ H
  · replace H := ite_p cc H
    refine g_iconst (T_X12_nights 5 _ _ _ rfl) ⟨by decide, by decide⟩ ?_
    exact g_iret (T_X12_nights 6 _ _ _ rfl) rfl (qi_of H)
def L_X12_copies_2 (N : Nat) : Nat → Int → Hp → Option (Hp)
  | 0, _, _ => none
  | n + 1, x2, h =>
    if 17 ≤ x2 then
      some h
    else
    grd (0 ≤ x2 ∧ x2 < 17) <|
    grd (0 ≤ x2 ∧ x2 < 17) <|
    bnd (hw h 85 x2.toNat (h 84 x2.toNat)) fun h1 =>
    bnd (w32 (x2 + 1)) fun y2 =>
    (L_X12_copies_2 N n) y2 h1
set_option maxRecDepth 100000 in
set_option maxHeartbeats 4000000 in
theorem R_L_X12_copies_2 (N : Nat) : ∀ (n : Nat) (x2 : Int) (h : Hp) (res : Hp), L_X12_copies_2 N n x2 h = some res → Go M_X12_copies 1 2 [some (.inr 85), some (.inr 86), some (.inl x2)] [] h (Qv res)
  | 0, _, _, _, H => by cases H
  | n + 1, x2, h, res, H => by
    have ih := R_L_X12_copies_2 N n
    simp only [L_X12_copies_2] at H
    refine g_iload_n (T_X12_copies 2 _ _ _ rfl) rfl ?_
    refine g_bipush (T_X12_copies 3 _ _ _ rfl) (by decide) ?_
    refine g_icmp_ge (tgt := 20) (T_X12_copies 4 _ _ _ rfl) (by decide) (fun cc => ?_) (fun cc => ?_)
    · replace H := ite_p cc H
      exact g_vret (T_X12_copies 13 _ _ _ rfl) rfl (qv_of H)
    · replace H := ite_n cc H
      refine g_aload_n (T_X12_copies 5 _ _ _ rfl) rfl ?_
      refine g_iload_n (T_X12_copies 6 _ _ _ rfl) rfl ?_
      refine g_aload_n (T_X12_copies 7 _ _ _ rfl) rfl ?_
      refine g_iload_n (T_X12_copies 8 _ _ _ rfl) rfl ?_
      obtain ⟨hg, H⟩ := grd_some H
      refine g_iald (c := 84) (T_X12_copies 9 _ _ _ rfl) rfl hg ?_
      obtain ⟨hg, H⟩ := grd_some H
      refine g_iast (c := 85) (T_X12_copies 10 _ _ _ rfl) rfl hg ?_
      refine g_bndH H fun h1 H => ?_
      refine g_iincB (T_X12_copies 11 _ _ _ rfl) rfl (by decide) H fun y2 H => ?_
      refine g_goto (tgt := 2) (T_X12_copies 12 _ _ _ rfl) (by decide) ?_
      refine g_weak [true, true, true] ?_
      exact ih _ _ _ H
def F_X12_copies (N : Nat) (h : Hp) : Option (Hp) :=
  L_X12_copies_2 N  N 0 h
set_option maxRecDepth 100000 in
set_option maxHeartbeats 4000000 in
theorem R_X12_copies (N : Nat) (h : Hp) (res : Hp) (H : F_X12_copies N h = some res) : Runs M_X12_copies 1 [.inr 85, .inr 86] h (Qv res) := by
  refine Runs.of rfl (Nat.le_of_ble_eq_true rfl) ?_
  show Go M_X12_copies 1 0 [some (.inr 85), some (.inr 86), none] [] h (Qv res)
  unfold F_X12_copies at H
  refine g_iconst (T_X12_copies 0 _ _ _ rfl) ⟨by decide, by decide⟩ ?_
  refine g_istore_n (T_X12_copies 1 _ _ _ rfl) (by decide) ?_
  refine g_weak [true, true, true] ?_
  refine R_L_X12_copies_2 N   _ _ _ _ H
def L_X12_copies_v2_2 (N : Nat) : Nat → Int → Hp → Option (Hp)
  | 0, _, _ => none
  | n + 1, x2, h =>
    if 17 ≤ x2 then
      some h
    else
    grd (0 ≤ x2 ∧ x2 < 17) <|
    grd (0 ≤ x2 ∧ x2 < 17) <|
    bnd (hw h 84 x2.toNat (h 85 x2.toNat)) fun h1 =>
    bnd (w32 (x2 + 1)) fun y2 =>
    (L_X12_copies_v2_2 N n) y2 h1
set_option maxRecDepth 100000 in
set_option maxHeartbeats 4000000 in
theorem R_L_X12_copies_v2_2 (N : Nat) : ∀ (n : Nat) (x2 : Int) (h : Hp) (res : Hp), L_X12_copies_v2_2 N n x2 h = some res → Go M_X12_copies 1 2 [some (.inr 86), some (.inr 85), some (.inl x2)] [] h (Qv res)
  | 0, _, _, _, H => by cases H
  | n + 1, x2, h, res, H => by
    have ih := R_L_X12_copies_v2_2 N n
    simp only [L_X12_copies_v2_2] at H
    refine g_iload_n (T_X12_copies 2 _ _ _ rfl) rfl ?_
    refine g_bipush (T_X12_copies 3 _ _ _ rfl) (by decide) ?_
    refine g_icmp_ge (tgt := 20) (T_X12_copies 4 _ _ _ rfl) (by decide) (fun cc => ?_) (fun cc => ?_)
    · replace H := ite_p cc H
      exact g_vret (T_X12_copies 13 _ _ _ rfl) rfl (qv_of H)
    · replace H := ite_n cc H
      refine g_aload_n (T_X12_copies 5 _ _ _ rfl) rfl ?_
      refine g_iload_n (T_X12_copies 6 _ _ _ rfl) rfl ?_
      refine g_aload_n (T_X12_copies 7 _ _ _ rfl) rfl ?_
      refine g_iload_n (T_X12_copies 8 _ _ _ rfl) rfl ?_
      obtain ⟨hg, H⟩ := grd_some H
      refine g_iald (c := 85) (T_X12_copies 9 _ _ _ rfl) rfl hg ?_
      obtain ⟨hg, H⟩ := grd_some H
      refine g_iast (c := 84) (T_X12_copies 10 _ _ _ rfl) rfl hg ?_
      refine g_bndH H fun h1 H => ?_
      refine g_iincB (T_X12_copies 11 _ _ _ rfl) rfl (by decide) H fun y2 H => ?_
      refine g_goto (tgt := 2) (T_X12_copies 12 _ _ _ rfl) (by decide) ?_
      refine g_weak [true, true, true] ?_
      exact ih _ _ _ H
def F_X12_copies_v2 (N : Nat) (h : Hp) : Option (Hp) :=
  L_X12_copies_v2_2 N  N 0 h
set_option maxRecDepth 100000 in
set_option maxHeartbeats 4000000 in
theorem R_X12_copies_v2 (N : Nat) (h : Hp) (res : Hp) (H : F_X12_copies_v2 N h = some res) : Runs M_X12_copies 1 [.inr 86, .inr 85] h (Qv res) := by
  refine Runs.of rfl (Nat.le_of_ble_eq_true rfl) ?_
  show Go M_X12_copies 1 0 [some (.inr 86), some (.inr 85), none] [] h (Qv res)
  unfold F_X12_copies_v2 at H
  refine g_iconst (T_X12_copies 0 _ _ _ rfl) ⟨by decide, by decide⟩ ?_
  refine g_istore_n (T_X12_copies 1 _ _ _ rfl) (by decide) ?_
  refine g_weak [true, true, true] ?_
  refine R_L_X12_copies_v2_2 N   _ _ _ _ H
def F_X12_lastOf (N : Nat) (x1 : Int) (h : Hp) : Option (Int × Hp) :=
  grd (0 ≤ x1 ∧ x1 < 5) <|
  if 600 ≤ (h 117 x1.toNat) then
    some ((-2), h)
  else
  grd (0 ≤ x1 ∧ x1 < 5) <|
  grd (0 ≤ x1 ∧ x1 < 5) <|
  if (h 115 x1.toNat) = (h 93 x1.toNat) then
    grd (0 ≤ x1 ∧ x1 < 5) <|
    some ((h 117 x1.toNat), h)
  else
  some ((-2), h)
set_option maxRecDepth 100000 in
set_option maxHeartbeats 4000000 in
theorem R_X12_lastOf (N : Nat) (x1 : Int) (h : Hp) (res : Int × Hp) (H : F_X12_lastOf N x1 h = some res) : Runs M_X12_lastOf 1 [.inr 84, .inl x1] h (Qi res) := by
  refine Runs.of rfl (Nat.le_of_ble_eq_true rfl) ?_
  show Go M_X12_lastOf 1 0 [some (.inr 84), some (.inl x1)] [] h (Qi res)
  unfold F_X12_lastOf at H
  refine g_aload_n (T_X12_lastOf 0 _ _ _ rfl) rfl ?_
  refine g_getR (c := 83) (r := 118) (T_X12_lastOf 1 _ _ _ rfl) fl_X12_110 rfl (nR rfl) rfl (by decide) ?_
  refine g_iload_n (T_X12_lastOf 2 _ _ _ rfl) rfl ?_
  obtain ⟨hg, H⟩ := grd_some H
  refine g_iald (c := 117) (T_X12_lastOf 3 _ _ _ rfl) rfl hg ?_
  refine g_sipush (T_X12_lastOf 4 _ _ _ rfl) (by decide) ?_
  refine g_icmp_ge (tgt := 36) (T_X12_lastOf 5 _ _ _ rfl) (by decide) (fun cc => ?_) (fun cc => ?_)
  · replace H := ite_p cc H
    refine g_bipush (T_X12_lastOf 20 _ _ _ rfl) (by decide) ?_
    exact g_iret (T_X12_lastOf 21 _ _ _ rfl) rfl (qi_of H)
  · replace H := ite_n cc H
    refine g_aload_n (T_X12_lastOf 6 _ _ _ rfl) rfl ?_
    refine g_getR (c := 83) (r := 116) (T_X12_lastOf 7 _ _ _ rfl) fl_X12_104 rfl (nR rfl) rfl (by decide) ?_
    refine g_iload_n (T_X12_lastOf 8 _ _ _ rfl) rfl ?_
    obtain ⟨hg, H⟩ := grd_some H
    refine g_iald (c := 115) (T_X12_lastOf 9 _ _ _ rfl) rfl hg ?_
    refine g_aload_n (T_X12_lastOf 10 _ _ _ rfl) rfl ?_
    refine g_getR (c := 83) (r := 94) (T_X12_lastOf 11 _ _ _ rfl) fl_X12_37 rfl (nR rfl) rfl (by decide) ?_
    refine g_iload_n (T_X12_lastOf 12 _ _ _ rfl) rfl ?_
    obtain ⟨hg, H⟩ := grd_some H
    refine g_iald (c := 93) (T_X12_lastOf 13 _ _ _ rfl) rfl hg ?_
    refine g_icmp_ne (tgt := 36) (T_X12_lastOf 14 _ _ _ rfl) (by decide) (fun cc => ?_) (fun cc => ?_)
    · replace H := ite_n cc H
      refine g_bipush (T_X12_lastOf 20 _ _ _ rfl) (by decide) ?_
      exact g_iret (T_X12_lastOf 21 _ _ _ rfl) rfl (qi_of H)
    · replace H := ite_p cc H
      refine g_aload_n (T_X12_lastOf 15 _ _ _ rfl) rfl ?_
      refine g_getR (c := 83) (r := 118) (T_X12_lastOf 16 _ _ _ rfl) fl_X12_110 rfl (nR rfl) rfl (by decide) ?_
      refine g_iload_n (T_X12_lastOf 17 _ _ _ rfl) rfl ?_
      obtain ⟨hg, H⟩ := grd_some H
      refine g_iald (c := 117) (T_X12_lastOf 18 _ _ _ rfl) rfl hg ?_
      refine g_goto (tgt := 38) (T_X12_lastOf 19 _ _ _ rfl) (by decide) ?_
      exact g_iret (T_X12_lastOf 21 _ _ _ rfl) rfl (qi_of H)
def J_X12_tried_262 (N : Nat) (x3 : Int) (h : Hp) : Option (Int × Hp) :=
  bv (F_X12_copies_v2 N h) fun h1 =>
  some (x3, h1)
set_option maxRecDepth 100000 in
set_option maxHeartbeats 4000000 in
theorem R_J_X12_tried_262 (N : Nat) (x3 : Int) (h : Hp) (res : Int × Hp) (H : J_X12_tried_262 N x3 h = some res) : Go M_X12_tried 7 262 [some (.inr 84), none, none, some (.inl x3)] [] h (Qi res) := by
  unfold J_X12_tried_262 at H
  refine g_aload_n (T_X12_tried 120 _ _ _ rfl) rfl ?_
  refine g_getR (c := 83) (r := 86) (T_X12_tried 121 _ _ _ rfl) fl_X12_13 rfl (nR rfl) rfl (by decide) ?_
  refine g_aload_n (T_X12_tried 122 _ _ _ rfl) rfl ?_
  refine g_getR (c := 83) (r := 85) (T_X12_tried 123 _ _ _ rfl) fl_X12_7 rfl (nR rfl) rfl (by decide) ?_
  obtain ⟨h1, hq, H⟩ := bv_some H
  refine g_callSv (M' := M_X12_copies) (av := [.inr 86, .inr 85]) (st := []) (T_X12_tried 124 _ _ _ rfl) ml_X12_335 cb_X12_copies rfl (Nat.le_of_ble_eq_true rfl) (by omega) (R_X12_copies_v2 N _ _ hq) ?_
  refine g_iload_n (T_X12_tried 125 _ _ _ rfl) rfl ?_
  exact g_iret (T_X12_tried 126 _ _ _ rfl) rfl (qi_of H)
def J_X12_tried_80 (N : Nat) (x1 : Int) (s0 : Int) (h : Hp) : Option (Int × Hp) :=
  if s0 = 0 then
    some ((-1), h)
  else
  if (h 84 (14 : Int).toNat) = 9999 then
    some ((-1), h)
  else
  bv (F_X12_copies N h) fun h1 =>
  bv (F_X12_goesNight N h1) fun h2 =>
  if x1 = 0 then
    bnd ((w32 ((h2 84 (15 : Int).toNat) - (h2 85 (15 : Int).toNat)))) fun y3 =>
    J_X12_tried_262 N  y3 h2
  else if x1 = 1 then
    bd (F_X12_yardsAll N h2) fun y5 h4 =>
    J_X12_tried_262 N  y5 h4
  else if x1 = 2 then
    bnd ((h2 83 47)) fun y6 =>
    J_X12_tried_262 N  y6 h2
  else if x1 = 3 then
    bnd ((h2 83 48)) fun y7 =>
    J_X12_tried_262 N  y7 h2
  else if x1 = 4 then
    bnd ((h2 83 49)) fun y8 =>
    J_X12_tried_262 N  y8 h2
  else if x1 = 5 then
    bnd ((h2 83 50)) fun y9 =>
    J_X12_tried_262 N  y9 h2
  else 
  if 30 ≤ x1 then
    if 40 ≤ x1 then
      bd (F_X12_lastOf N (w32 (x1 - 40)) h2) fun y11 h10 =>
      J_X12_tried_262 N  y11 h10
    else
    grd (0 ≤ (w32 (x1 - 30)) ∧ (w32 (x1 - 30)) < 5) <|
    bnd ((h2 114 (w32 (x1 - 30)).toNat)) fun y12 =>
    J_X12_tried_262 N  y12 h2
  else
  grd (0 ≤ (w32 ((w32 (0 + x1)) - 10)) ∧ (w32 ((w32 (0 + x1)) - 10)) < 17) <|
  bnd ((h2 84 (w32 ((w32 (0 + x1)) - 10)).toNat)) fun y13 =>
  J_X12_tried_262 N  y13 h2
set_option maxRecDepth 100000 in
set_option maxHeartbeats 4000000 in
theorem R_J_X12_tried_80 (N : Nat) (x1 : Int) (s0 : Int) (h : Hp) (res : Int × Hp) (H : J_X12_tried_80 N x1 s0 h = some res) : Go M_X12_tried 7 80 [some (.inr 84), some (.inl x1), none, none] [.inl s0] h (Qi res) := by
  unfold J_X12_tried_80 at H
  refine g_istore_n (T_X12_tried 41 _ _ _ rfl) (by decide) ?_
  refine g_iload_n (T_X12_tried 42 _ _ _ rfl) rfl ?_
  refine g_if_eq (tgt := 98) (T_X12_tried 43 _ _ _ rfl) (by decide) (fun cc => ?_) (fun cc => ?_)
  · replace H := ite_p cc H
    refine g_iconst (T_X12_tried 50 _ _ _ rfl) ⟨by decide, by decide⟩ ?_
    exact g_iret (T_X12_tried 51 _ _ _ rfl) rfl (qi_of H)
  · replace H := ite_n cc H
    refine g_aload_n (T_X12_tried 44 _ _ _ rfl) rfl ?_
    refine g_getR (c := 83) (r := 85) (T_X12_tried 45 _ _ _ rfl) fl_X12_7 rfl (nR rfl) rfl (by decide) ?_
    refine g_bipush (T_X12_tried 46 _ _ _ rfl) (by decide) ?_
    refine g_iald (c := 84) (T_X12_tried 47 _ _ _ rfl) rfl (by decide) ?_
    refine g_sipush (T_X12_tried 48 _ _ _ rfl) (by decide) ?_
    refine g_icmp_ne (tgt := 100) (T_X12_tried 49 _ _ _ rfl) (by decide) (fun cc => ?_) (fun cc => ?_)
    · replace H := ite_n cc H
      refine g_aload_n (T_X12_tried 52 _ _ _ rfl) rfl ?_
      refine g_getR (c := 83) (r := 85) (T_X12_tried 53 _ _ _ rfl) fl_X12_7 rfl (nR rfl) rfl (by decide) ?_
      refine g_aload_n (T_X12_tried 54 _ _ _ rfl) rfl ?_
      refine g_getR (c := 83) (r := 86) (T_X12_tried 55 _ _ _ rfl) fl_X12_13 rfl (nR rfl) rfl (by decide) ?_
      obtain ⟨h1, hq, H⟩ := bv_some H
      refine g_callSv (M' := M_X12_copies) (av := [.inr 85, .inr 86]) (st := []) (T_X12_tried 56 _ _ _ rfl) ml_X12_335 cb_X12_copies rfl (Nat.le_of_ble_eq_true rfl) (by omega) (R_X12_copies N _ _ hq) ?_
      refine g_aload_n (T_X12_tried 57 _ _ _ rfl) rfl ?_
      obtain ⟨h2, hq, H⟩ := bv_some H
      refine g_callVv (M' := M_X12_goesNight) (c := 83) (av := []) (st := []) (T_X12_tried 58 _ _ _ rfl) ml_X12_329 cb_X12_goesNight rfl rfl (Nat.le_of_ble_eq_true rfl) (by omega) (R_X12_goesNight N _ _ hq) ?_
      refine g_iload_n (T_X12_tried 59 _ _ _ rfl) rfl ?_
      by_cases cc0 : x1 = 0
      · replace H := ite_p cc0 H
        refine g_tswIn (tgt := 156) (T_X12_tried 60 _ _ _ rfl) (by rw [cc0]; decide) (by rw [cc0]; decide) (by first | (rw [cc0]; done) | (rw [cc0]; rfl)) (by decide) ?_
        refine g_aload_n (T_X12_tried 61 _ _ _ rfl) rfl ?_
        refine g_getR (c := 83) (r := 85) (T_X12_tried 62 _ _ _ rfl) fl_X12_7 rfl (nR rfl) rfl (by decide) ?_
        refine g_bipush (T_X12_tried 63 _ _ _ rfl) (by decide) ?_
        refine g_iald (c := 84) (T_X12_tried 64 _ _ _ rfl) rfl (by decide) ?_
        refine g_aload_n (T_X12_tried 65 _ _ _ rfl) rfl ?_
        refine g_getR (c := 83) (r := 86) (T_X12_tried 66 _ _ _ rfl) fl_X12_13 rfl (nR rfl) rfl (by decide) ?_
        refine g_bipush (T_X12_tried 67 _ _ _ rfl) (by decide) ?_
        refine g_iald (c := 85) (T_X12_tried 68 _ _ _ rfl) rfl (by decide) ?_
        refine g_isub (T_X12_tried 69 _ _ _ rfl) ?_
        refine g_bndI H fun y3 H => ?_
        refine g_istore_n (T_X12_tried 70 _ _ _ rfl) (by decide) ?_
        refine g_goto (tgt := 262) (T_X12_tried 71 _ _ _ rfl) (by decide) ?_
        refine g_weak [true, false, false, true] ?_
        exact R_J_X12_tried_262 N   _ _ _ H
      replace H := ite_n cc0 H
      by_cases cc1 : x1 = 1
      · replace H := ite_p cc1 H
        refine g_tswIn (tgt := 175) (T_X12_tried 60 _ _ _ rfl) (by rw [cc1]; decide) (by rw [cc1]; decide) (by first | (rw [cc1]; done) | (rw [cc1]; rfl)) (by decide) ?_
        refine g_aload_n (T_X12_tried 72 _ _ _ rfl) rfl ?_
        obtain ⟨y5, h4, hq, H⟩ := bd_some H
        refine g_callVi (M' := M_X12_yardsAll) (c := 83) (av := []) (st := []) (T_X12_tried 73 _ _ _ rfl) ml_X12_332 cb_X12_yardsAll rfl rfl (Nat.le_of_ble_eq_true rfl) (by omega) (R_X12_yardsAll N _ _ hq) ?_
        refine g_istore_n (T_X12_tried 74 _ _ _ rfl) (by decide) ?_
        refine g_goto (tgt := 262) (T_X12_tried 75 _ _ _ rfl) (by decide) ?_
        refine g_weak [true, false, false, true] ?_
        exact R_J_X12_tried_262 N   _ _ _ H
      replace H := ite_n cc1 H
      by_cases cc2 : x1 = 2
      · replace H := ite_p cc2 H
        refine g_tswIn (tgt := 183) (T_X12_tried 60 _ _ _ rfl) (by rw [cc2]; decide) (by rw [cc2]; decide) (by first | (rw [cc2]; done) | (rw [cc2]; rfl)) (by decide) ?_
        refine g_aload_n (T_X12_tried 76 _ _ _ rfl) rfl ?_
        refine g_getI (c := 83) (T_X12_tried 77 _ _ _ rfl) fl_X12_311 rfl (Or.inl rfl) ?_
        refine g_bndI H fun y6 H => ?_
        refine g_istore_n (T_X12_tried 78 _ _ _ rfl) (by decide) ?_
        refine g_goto (tgt := 262) (T_X12_tried 79 _ _ _ rfl) (by decide) ?_
        refine g_weak [true, false, false, true] ?_
        exact R_J_X12_tried_262 N   _ _ _ H
      replace H := ite_n cc2 H
      by_cases cc3 : x1 = 3
      · replace H := ite_p cc3 H
        refine g_tswIn (tgt := 191) (T_X12_tried 60 _ _ _ rfl) (by rw [cc3]; decide) (by rw [cc3]; decide) (by first | (rw [cc3]; done) | (rw [cc3]; rfl)) (by decide) ?_
        refine g_aload_n (T_X12_tried 80 _ _ _ rfl) rfl ?_
        refine g_getI (c := 83) (T_X12_tried 81 _ _ _ rfl) fl_X12_314 rfl (Or.inl rfl) ?_
        refine g_bndI H fun y7 H => ?_
        refine g_istore_n (T_X12_tried 82 _ _ _ rfl) (by decide) ?_
        refine g_goto (tgt := 262) (T_X12_tried 83 _ _ _ rfl) (by decide) ?_
        refine g_weak [true, false, false, true] ?_
        exact R_J_X12_tried_262 N   _ _ _ H
      replace H := ite_n cc3 H
      by_cases cc4 : x1 = 4
      · replace H := ite_p cc4 H
        refine g_tswIn (tgt := 199) (T_X12_tried 60 _ _ _ rfl) (by rw [cc4]; decide) (by rw [cc4]; decide) (by first | (rw [cc4]; done) | (rw [cc4]; rfl)) (by decide) ?_
        refine g_aload_n (T_X12_tried 84 _ _ _ rfl) rfl ?_
        refine g_getI (c := 83) (T_X12_tried 85 _ _ _ rfl) fl_X12_302 rfl (Or.inl rfl) ?_
        refine g_bndI H fun y8 H => ?_
        refine g_istore_n (T_X12_tried 86 _ _ _ rfl) (by decide) ?_
        refine g_goto (tgt := 262) (T_X12_tried 87 _ _ _ rfl) (by decide) ?_
        refine g_weak [true, false, false, true] ?_
        exact R_J_X12_tried_262 N   _ _ _ H
      replace H := ite_n cc4 H
      by_cases cc5 : x1 = 5
      · replace H := ite_p cc5 H
        refine g_tswIn (tgt := 207) (T_X12_tried 60 _ _ _ rfl) (by rw [cc5]; decide) (by rw [cc5]; decide) (by first | (rw [cc5]; done) | (rw [cc5]; rfl)) (by decide) ?_
        refine g_aload_n (T_X12_tried 88 _ _ _ rfl) rfl ?_
        refine g_getI (c := 83) (T_X12_tried 89 _ _ _ rfl) fl_X12_299 rfl (Or.inl rfl) ?_
        refine g_bndI H fun y9 H => ?_
        refine g_istore_n (T_X12_tried 90 _ _ _ rfl) (by decide) ?_
        refine g_goto (tgt := 262) (T_X12_tried 91 _ _ _ rfl) (by decide) ?_
        refine g_weak [true, false, false, true] ?_
        exact R_J_X12_tried_262 N   _ _ _ H
      replace H := ite_n cc5 H
      refine g_tswOut (tgt := 215) (T_X12_tried 60 _ _ _ rfl) (by omega) (by decide) ?_
      refine g_iload_n (T_X12_tried 92 _ _ _ rfl) rfl ?_
      refine g_bipush (T_X12_tried 93 _ _ _ rfl) (by decide) ?_
      refine g_icmp_ge (tgt := 235) (T_X12_tried 94 _ _ _ rfl) (by decide) (fun cc => ?_) (fun cc => ?_)
      · replace H := ite_p cc H
        refine g_iload_n (T_X12_tried 104 _ _ _ rfl) rfl ?_
        refine g_bipush (T_X12_tried 105 _ _ _ rfl) (by decide) ?_
        refine g_icmp_ge (tgt := 253) (T_X12_tried 106 _ _ _ rfl) (by decide) (fun cc => ?_) (fun cc => ?_)
        · replace H := ite_p cc H
          refine g_aload_n (T_X12_tried 114 _ _ _ rfl) rfl ?_
          refine g_iload_n (T_X12_tried 115 _ _ _ rfl) rfl ?_
          refine g_bipush (T_X12_tried 116 _ _ _ rfl) (by decide) ?_
          refine g_isub (T_X12_tried 117 _ _ _ rfl) ?_
          obtain ⟨y11, h10, hq, H⟩ := bd_some H
          refine g_callVi (M' := M_X12_lastOf) (c := 83) (av := [.inl (w32 (x1 - 40))]) (st := []) (T_X12_tried 118 _ _ _ rfl) ml_X12_339 cb_X12_lastOf rfl rfl (Nat.le_of_ble_eq_true rfl) (by omega) (R_X12_lastOf N _ _ _ hq) ?_
          refine g_istore_n (T_X12_tried 119 _ _ _ rfl) (by decide) ?_
          refine g_weak [true, false, false, true] ?_
          exact R_J_X12_tried_262 N   _ _ _ H
        · replace H := ite_n cc H
          refine g_aload_n (T_X12_tried 107 _ _ _ rfl) rfl ?_
          refine g_getR (c := 83) (r := 115) (T_X12_tried 108 _ _ _ rfl) fl_X12_101 rfl (nR rfl) rfl (by decide) ?_
          refine g_iload_n (T_X12_tried 109 _ _ _ rfl) rfl ?_
          refine g_bipush (T_X12_tried 110 _ _ _ rfl) (by decide) ?_
          refine g_isub (T_X12_tried 111 _ _ _ rfl) ?_
          obtain ⟨hg, H⟩ := grd_some H
          refine g_iald (c := 114) (T_X12_tried 112 _ _ _ rfl) rfl hg ?_
          refine g_goto (tgt := 261) (T_X12_tried 113 _ _ _ rfl) (by decide) ?_
          refine g_bndI H fun y12 H => ?_
          refine g_istore_n (T_X12_tried 119 _ _ _ rfl) (by decide) ?_
          refine g_weak [true, false, false, true] ?_
          exact R_J_X12_tried_262 N   _ _ _ H
      · replace H := ite_n cc H
        refine g_aload_n (T_X12_tried 95 _ _ _ rfl) rfl ?_
        refine g_getR (c := 83) (r := 85) (T_X12_tried 96 _ _ _ rfl) fl_X12_7 rfl (nR rfl) rfl (by decide) ?_
        refine g_iconst (T_X12_tried 97 _ _ _ rfl) ⟨by decide, by decide⟩ ?_
        refine g_iload_n (T_X12_tried 98 _ _ _ rfl) rfl ?_
        refine g_iadd (T_X12_tried 99 _ _ _ rfl) ?_
        refine g_bipush (T_X12_tried 100 _ _ _ rfl) (by decide) ?_
        refine g_isub (T_X12_tried 101 _ _ _ rfl) ?_
        obtain ⟨hg, H⟩ := grd_some H
        refine g_iald (c := 84) (T_X12_tried 102 _ _ _ rfl) rfl hg ?_
        refine g_goto (tgt := 261) (T_X12_tried 103 _ _ _ rfl) (by decide) ?_
        refine g_bndI H fun y13 H => ?_
        refine g_istore_n (T_X12_tried 119 _ _ _ rfl) (by decide) ?_
        refine g_weak [true, false, false, true] ?_
        exact R_J_X12_tried_262 N   _ _ _ H
    · replace H := ite_p cc H
      refine g_iconst (T_X12_tried 50 _ _ _ rfl) ⟨by decide, by decide⟩ ?_
      exact g_iret (T_X12_tried 51 _ _ _ rfl) rfl (qi_of H)
def J_X12_tried_53 (N : Nat) (x1 : Int) (h : Hp) : Option (Int × Hp) :=
  bd (F_X12_in N x1 40 44 h) fun y2 h1 =>
  if y2 = 0 then
    J_X12_tried_80 N  x1 0 h1
  else
  bd (F_X12_isCart N (w32 (x1 - 40)) h1) fun y4 h3 =>
  if y4 = 0 then
    J_X12_tried_80 N  x1 0 h3
  else
  J_X12_tried_80 N  x1 1 h3
set_option maxRecDepth 100000 in
set_option maxHeartbeats 4000000 in
theorem R_J_X12_tried_53 (N : Nat) (x1 : Int) (h : Hp) (res : Int × Hp) (H : J_X12_tried_53 N x1 h = some res) : Go M_X12_tried 7 53 [some (.inr 84), some (.inl x1), none, none] [] h (Qi res) := by
  unfold J_X12_tried_53 at H
  refine g_iload_n (T_X12_tried 27 _ _ _ rfl) rfl ?_
  refine g_bipush (T_X12_tried 28 _ _ _ rfl) (by decide) ?_
  refine g_bipush (T_X12_tried 29 _ _ _ rfl) (by decide) ?_
  obtain ⟨y2, h1, hq, H⟩ := bd_some H
  refine g_callSi (M' := M_X12_in) (av := [.inl x1, .inl 40, .inl 44]) (st := []) (T_X12_tried 30 _ _ _ rfl) ml_X12_155 cb_X12_in rfl (Nat.le_of_ble_eq_true rfl) (by omega) (R_X12_in N _ _ _ _ _ hq) ?_
  refine g_if_eq (tgt := 79) (T_X12_tried 31 _ _ _ rfl) (by decide) (fun cc => ?_) (fun cc => ?_)
  · replace H := ite_p cc H
    refine g_iconst (T_X12_tried 40 _ _ _ rfl) ⟨by decide, by decide⟩ ?_
    refine g_weak [true, true, false, false] ?_
    exact R_J_X12_tried_80 N   _ _ _ _ H
  · replace H := ite_n cc H
    refine g_aload_n (T_X12_tried 32 _ _ _ rfl) rfl ?_
    refine g_iload_n (T_X12_tried 33 _ _ _ rfl) rfl ?_
    refine g_bipush (T_X12_tried 34 _ _ _ rfl) (by decide) ?_
    refine g_isub (T_X12_tried 35 _ _ _ rfl) ?_
    obtain ⟨y4, h3, hq, H⟩ := bd_some H
    refine g_callVi (M' := M_X12_isCart) (c := 83) (av := [.inl (w32 (x1 - 40))]) (st := []) (T_X12_tried 36 _ _ _ rfl) ml_X12_317 cb_X12_isCart rfl rfl (Nat.le_of_ble_eq_true rfl) (by omega) (R_X12_isCart N _ _ _ hq) ?_
    refine g_if_eq (tgt := 79) (T_X12_tried 37 _ _ _ rfl) (by decide) (fun cc => ?_) (fun cc => ?_)
    · replace H := ite_p cc H
      refine g_iconst (T_X12_tried 40 _ _ _ rfl) ⟨by decide, by decide⟩ ?_
      refine g_weak [true, true, false, false] ?_
      exact R_J_X12_tried_80 N   _ _ _ _ H
    · replace H := ite_n cc H
      refine g_iconst (T_X12_tried 38 _ _ _ rfl) ⟨by decide, by decide⟩ ?_
      refine g_goto (tgt := 80) (T_X12_tried 39 _ _ _ rfl) (by decide) ?_
      refine g_weak [true, true, false, false] ?_
      exact R_J_X12_tried_80 N   _ _ _ _ H
def J_X12_tried_31 (N : Nat) (x1 : Int) (h : Hp) : Option (Int × Hp) :=
  bd (F_X12_in N x1 30 34 h) fun y2 h1 =>
  if y2 = 0 then
    J_X12_tried_53 N  x1 h1
  else
  bd (F_X12_isCart N (w32 (x1 - 30)) h1) fun y4 h3 =>
  if y4 = 0 then
    J_X12_tried_53 N  x1 h3
  else
  J_X12_tried_80 N  x1 1 h3
set_option maxRecDepth 100000 in
set_option maxHeartbeats 4000000 in
theorem R_J_X12_tried_31 (N : Nat) (x1 : Int) (h : Hp) (res : Int × Hp) (H : J_X12_tried_31 N x1 h = some res) : Go M_X12_tried 7 31 [some (.inr 84), some (.inl x1), none, none] [] h (Qi res) := by
  unfold J_X12_tried_31 at H
  refine g_iload_n (T_X12_tried 16 _ _ _ rfl) rfl ?_
  refine g_bipush (T_X12_tried 17 _ _ _ rfl) (by decide) ?_
  refine g_bipush (T_X12_tried 18 _ _ _ rfl) (by decide) ?_
  obtain ⟨y2, h1, hq, H⟩ := bd_some H
  refine g_callSi (M' := M_X12_in) (av := [.inl x1, .inl 30, .inl 34]) (st := []) (T_X12_tried 19 _ _ _ rfl) ml_X12_155 cb_X12_in rfl (Nat.le_of_ble_eq_true rfl) (by omega) (R_X12_in N _ _ _ _ _ hq) ?_
  refine g_if_eq (tgt := 53) (T_X12_tried 20 _ _ _ rfl) (by decide) (fun cc => ?_) (fun cc => ?_)
  · replace H := ite_p cc H
    refine g_weak [true, true, false, false] ?_
    exact R_J_X12_tried_53 N   _ _ _ H
  · replace H := ite_n cc H
    refine g_aload_n (T_X12_tried 21 _ _ _ rfl) rfl ?_
    refine g_iload_n (T_X12_tried 22 _ _ _ rfl) rfl ?_
    refine g_bipush (T_X12_tried 23 _ _ _ rfl) (by decide) ?_
    refine g_isub (T_X12_tried 24 _ _ _ rfl) ?_
    obtain ⟨y4, h3, hq, H⟩ := bd_some H
    refine g_callVi (M' := M_X12_isCart) (c := 83) (av := [.inl (w32 (x1 - 30))]) (st := []) (T_X12_tried 25 _ _ _ rfl) ml_X12_317 cb_X12_isCart rfl rfl (Nat.le_of_ble_eq_true rfl) (by omega) (R_X12_isCart N _ _ _ hq) ?_
    refine g_if_ne (tgt := 75) (T_X12_tried 26 _ _ _ rfl) (by decide) (fun cc => ?_) (fun cc => ?_)
    · replace H := ite_n cc H
      refine g_iconst (T_X12_tried 38 _ _ _ rfl) ⟨by decide, by decide⟩ ?_
      refine g_goto (tgt := 80) (T_X12_tried 39 _ _ _ rfl) (by decide) ?_
      refine g_weak [true, true, false, false] ?_
      exact R_J_X12_tried_80 N   _ _ _ _ H
    · replace H := ite_p cc H
      refine g_weak [true, true, false, false] ?_
      exact R_J_X12_tried_53 N   _ _ _ H
def F_X12_tried (N : Nat) (x1 : Int) (h : Hp) : Option (Int × Hp) :=
  bd (F_X12_in N x1 0 5 h) fun y2 h1 =>
  if y2 = 0 then
    bd (F_X12_in N x1 10 23 h1) fun y4 h3 =>
    if y4 = 0 then
      J_X12_tried_31 N  x1 h3
    else
    bd (F_X12_isStreet N (w32 (x1 - 10)) h3) fun y6 h5 =>
    if y6 = 0 then
      J_X12_tried_31 N  x1 h5
    else
    J_X12_tried_80 N  x1 1 h5
  else
  J_X12_tried_80 N  x1 1 h1
set_option maxRecDepth 100000 in
set_option maxHeartbeats 4000000 in
theorem R_X12_tried (N : Nat) (x1 : Int) (h : Hp) (res : Int × Hp) (H : F_X12_tried N x1 h = some res) : Runs M_X12_tried 7 [.inr 84, .inl x1] h (Qi res) := by
  refine Runs.of rfl (Nat.le_of_ble_eq_true rfl) ?_
  show Go M_X12_tried 7 0 [some (.inr 84), some (.inl x1), none, none] [] h (Qi res)
  unfold F_X12_tried at H
  refine g_iload_n (T_X12_tried 0 _ _ _ rfl) rfl ?_
  refine g_iconst (T_X12_tried 1 _ _ _ rfl) ⟨by decide, by decide⟩ ?_
  refine g_iconst (T_X12_tried 2 _ _ _ rfl) ⟨by decide, by decide⟩ ?_
  obtain ⟨y2, h1, hq, H⟩ := bd_some H
  refine g_callSi (M' := M_X12_in) (av := [.inl x1, .inl 0, .inl 5]) (st := []) (T_X12_tried 3 _ _ _ rfl) ml_X12_155 cb_X12_in rfl (Nat.le_of_ble_eq_true rfl) (by omega) (R_X12_in N _ _ _ _ _ hq) ?_
  refine g_if_ne (tgt := 75) (T_X12_tried 4 _ _ _ rfl) (by decide) (fun cc => ?_) (fun cc => ?_)
  · replace H := ite_n cc H
    refine g_iconst (T_X12_tried 38 _ _ _ rfl) ⟨by decide, by decide⟩ ?_
    refine g_goto (tgt := 80) (T_X12_tried 39 _ _ _ rfl) (by decide) ?_
    refine g_weak [true, true, false, false] ?_
    exact R_J_X12_tried_80 N   _ _ _ _ H
  · replace H := ite_p cc H
    refine g_iload_n (T_X12_tried 5 _ _ _ rfl) rfl ?_
    refine g_bipush (T_X12_tried 6 _ _ _ rfl) (by decide) ?_
    refine g_bipush (T_X12_tried 7 _ _ _ rfl) (by decide) ?_
    obtain ⟨y4, h3, hq, H⟩ := bd_some H
    refine g_callSi (M' := M_X12_in) (av := [.inl x1, .inl 10, .inl 23]) (st := []) (T_X12_tried 8 _ _ _ rfl) ml_X12_155 cb_X12_in rfl (Nat.le_of_ble_eq_true rfl) (by omega) (R_X12_in N _ _ _ _ _ hq) ?_
    refine g_if_eq (tgt := 31) (T_X12_tried 9 _ _ _ rfl) (by decide) (fun cc => ?_) (fun cc => ?_)
    · replace H := ite_p cc H
      refine g_weak [true, true, false, false] ?_
      exact R_J_X12_tried_31 N   _ _ _ H
    · replace H := ite_n cc H
      refine g_aload_n (T_X12_tried 10 _ _ _ rfl) rfl ?_
      refine g_iload_n (T_X12_tried 11 _ _ _ rfl) rfl ?_
      refine g_bipush (T_X12_tried 12 _ _ _ rfl) (by decide) ?_
      refine g_isub (T_X12_tried 13 _ _ _ rfl) ?_
      obtain ⟨y6, h5, hq, H⟩ := bd_some H
      refine g_callVi (M' := M_X12_isStreet) (c := 83) (av := [.inl (w32 (x1 - 10))]) (st := []) (T_X12_tried 14 _ _ _ rfl) ml_X12_146 cb_X12_isStreet rfl rfl (Nat.le_of_ble_eq_true rfl) (by omega) (R_X12_isStreet N _ _ _ hq) ?_
      refine g_if_ne (tgt := 75) (T_X12_tried 15 _ _ _ rfl) (by decide) (fun cc => ?_) (fun cc => ?_)
      · replace H := ite_n cc H
        refine g_iconst (T_X12_tried 38 _ _ _ rfl) ⟨by decide, by decide⟩ ?_
        refine g_goto (tgt := 80) (T_X12_tried 39 _ _ _ rfl) (by decide) ?_
        refine g_weak [true, true, false, false] ?_
        exact R_J_X12_tried_80 N   _ _ _ _ H
      · replace H := ite_p cc H
        refine g_weak [true, true, false, false] ?_
        exact R_J_X12_tried_31 N   _ _ _ H
def F_X12_way (N : Nat) (x1 : Int) (x2 : Int) (h : Hp) : Option (Int × Hp) :=
  bd (F_X12_isStreet N x1 h) fun y2 h1 =>
  if y2 = 0 then
    some ((-1), h1)
  else
  bd (F_X12_isStreet N x2 h1) fun y4 h3 =>
  if y4 = 0 then
    some ((-1), h3)
  else
  bd (F_X12_farOf N x1 x2 h3) fun y6 h5 =>
  if y6 < 1000000 then
    bd (F_X12_farOf N x1 x2 h5) fun y8 h7 =>
    some (y8, h7)
  else
  some ((-2), h5)
set_option maxRecDepth 100000 in
set_option maxHeartbeats 4000000 in
theorem R_X12_way (N : Nat) (x1 : Int) (x2 : Int) (h : Hp) (res : Int × Hp) (H : F_X12_way N x1 x2 h = some res) : Runs M_X12_way 3 [.inr 84, .inl x1, .inl x2] h (Qi res) := by
  refine Runs.of rfl (Nat.le_of_ble_eq_true rfl) ?_
  show Go M_X12_way 3 0 [some (.inr 84), some (.inl x1), some (.inl x2)] [] h (Qi res)
  unfold F_X12_way at H
  refine g_aload_n (T_X12_way 0 _ _ _ rfl) rfl ?_
  refine g_iload_n (T_X12_way 1 _ _ _ rfl) rfl ?_
  obtain ⟨y2, h1, hq, H⟩ := bd_some H
  refine g_callVi (M' := M_X12_isStreet) (c := 83) (av := [.inl x1]) (st := []) (T_X12_way 2 _ _ _ rfl) ml_X12_146 cb_X12_isStreet rfl rfl (Nat.le_of_ble_eq_true rfl) (by omega) (R_X12_isStreet N _ _ _ hq) ?_
  refine g_if_eq (tgt := 16) (T_X12_way 3 _ _ _ rfl) (by decide) (fun cc => ?_) (fun cc => ?_)
  · replace H := ite_p cc H
    refine g_iconst (T_X12_way 8 _ _ _ rfl) ⟨by decide, by decide⟩ ?_
    exact g_iret (T_X12_way 9 _ _ _ rfl) rfl (qi_of H)
  · replace H := ite_n cc H
    refine g_aload_n (T_X12_way 4 _ _ _ rfl) rfl ?_
    refine g_iload_n (T_X12_way 5 _ _ _ rfl) rfl ?_
    obtain ⟨y4, h3, hq, H⟩ := bd_some H
    refine g_callVi (M' := M_X12_isStreet) (c := 83) (av := [.inl x2]) (st := []) (T_X12_way 6 _ _ _ rfl) ml_X12_146 cb_X12_isStreet rfl rfl (Nat.le_of_ble_eq_true rfl) (by omega) (R_X12_isStreet N _ _ _ hq) ?_
    refine g_if_ne (tgt := 18) (T_X12_way 7 _ _ _ rfl) (by decide) (fun cc => ?_) (fun cc => ?_)
    · replace H := ite_n cc H
      refine g_aload_n (T_X12_way 10 _ _ _ rfl) rfl ?_
      refine g_iload_n (T_X12_way 11 _ _ _ rfl) rfl ?_
      refine g_iload_n (T_X12_way 12 _ _ _ rfl) rfl ?_
      obtain ⟨y6, h5, hq, H⟩ := bd_some H
      refine g_callVi (M' := M_X12_farOf) (c := 83) (av := [.inl x1, .inl x2]) (st := []) (T_X12_way 13 _ _ _ rfl) ml_X12_293 cb_X12_farOf rfl rfl (Nat.le_of_ble_eq_true rfl) (by omega) (R_X12_farOf N _ _ _ _ hq) ?_
      refine g_ldc (T_X12_way 14 _ _ _ rfl) kc_X12_150 ⟨by decide, by decide⟩ ?_
      refine g_icmp_lt (tgt := 34) (T_X12_way 15 _ _ _ rfl) (by decide) (fun cc => ?_) (fun cc => ?_)
      · replace H := ite_p cc H
        refine g_aload_n (T_X12_way 18 _ _ _ rfl) rfl ?_
        refine g_iload_n (T_X12_way 19 _ _ _ rfl) rfl ?_
        refine g_iload_n (T_X12_way 20 _ _ _ rfl) rfl ?_
        obtain ⟨y8, h7, hq, H⟩ := bd_some H
        refine g_callVi (M' := M_X12_farOf) (c := 83) (av := [.inl x1, .inl x2]) (st := []) (T_X12_way 21 _ _ _ rfl) ml_X12_293 cb_X12_farOf rfl rfl (Nat.le_of_ble_eq_true rfl) (by omega) (R_X12_farOf N _ _ _ _ hq) ?_
        exact g_iret (T_X12_way 22 _ _ _ rfl) rfl (qi_of H)
      · replace H := ite_n cc H
        refine g_bipush (T_X12_way 16 _ _ _ rfl) (by decide) ?_
        refine g_goto (tgt := 40) (T_X12_way 17 _ _ _ rfl) (by decide) ?_
        exact g_iret (T_X12_way 22 _ _ _ rfl) rfl (qi_of H)
    · replace H := ite_p cc H
      refine g_iconst (T_X12_way 8 _ _ _ rfl) ⟨by decide, by decide⟩ ?_
      exact g_iret (T_X12_way 9 _ _ _ rfl) rfl (qi_of H)
def L_X12_bits_4 (N : Nat) : Nat → Int → Int → Int → Hp → Option (Int × Hp)
  | 0, _, _, _, _ => none
  | n + 1, x0, x1, x2, h =>
    if 14 ≤ x2 then
      some (x1, h)
    else
    bnd ((w32 (x1 + (iand (ishr x0 x2) 1)))) fun y1 =>
    bnd (w32 (x2 + 1)) fun y2 =>
    (L_X12_bits_4 N n) x0 y1 y2 h
set_option maxRecDepth 100000 in
set_option maxHeartbeats 4000000 in
theorem R_L_X12_bits_4 (N : Nat) : ∀ (n : Nat) (x0 : Int) (x1 : Int) (x2 : Int) (h : Hp) (res : Int × Hp), L_X12_bits_4 N n x0 x1 x2 h = some res → Go M_X12_bits 1 4 [some (.inl x0), some (.inl x1), some (.inl x2)] [] h (Qi res)
  | 0, _, _, _, _, _, H => by cases H
  | n + 1, x0, x1, x2, h, res, H => by
    have ih := R_L_X12_bits_4 N n
    simp only [L_X12_bits_4] at H
    refine g_iload_n (T_X12_bits 4 _ _ _ rfl) rfl ?_
    refine g_bipush (T_X12_bits 5 _ _ _ rfl) (by decide) ?_
    refine g_icmp_ge (tgt := 24) (T_X12_bits 6 _ _ _ rfl) (by decide) (fun cc => ?_) (fun cc => ?_)
    · replace H := ite_p cc H
      refine g_iload_n (T_X12_bits 17 _ _ _ rfl) rfl ?_
      exact g_iret (T_X12_bits 18 _ _ _ rfl) rfl (qi_of H)
    · replace H := ite_n cc H
      refine g_iload_n (T_X12_bits 7 _ _ _ rfl) rfl ?_
      refine g_iload_n (T_X12_bits 8 _ _ _ rfl) rfl ?_
      refine g_iload_n (T_X12_bits 9 _ _ _ rfl) rfl ?_
      refine g_ishr (T_X12_bits 10 _ _ _ rfl) ?_
      refine g_iconst (T_X12_bits 11 _ _ _ rfl) ⟨by decide, by decide⟩ ?_
      refine g_iand (T_X12_bits 12 _ _ _ rfl) ?_
      refine g_iadd (T_X12_bits 13 _ _ _ rfl) ?_
      refine g_bndI H fun y1 H => ?_
      refine g_istore_n (T_X12_bits 14 _ _ _ rfl) (by decide) ?_
      refine g_iincB (T_X12_bits 15 _ _ _ rfl) rfl (by decide) H fun y2 H => ?_
      refine g_goto (tgt := 4) (T_X12_bits 16 _ _ _ rfl) (by decide) ?_
      refine g_weak [true, true, true] ?_
      exact ih _ _ _ _ _ H
def F_X12_bits (N : Nat) (x0 : Int) (h : Hp) : Option (Int × Hp) :=
  L_X12_bits_4 N  N x0 0 0 h
set_option maxRecDepth 100000 in
set_option maxHeartbeats 4000000 in
theorem R_X12_bits (N : Nat) (x0 : Int) (h : Hp) (res : Int × Hp) (H : F_X12_bits N x0 h = some res) : Runs M_X12_bits 1 [.inl x0] h (Qi res) := by
  refine Runs.of rfl (Nat.le_of_ble_eq_true rfl) ?_
  show Go M_X12_bits 1 0 [some (.inl x0), none, none] [] h (Qi res)
  unfold F_X12_bits at H
  refine g_iconst (T_X12_bits 0 _ _ _ rfl) ⟨by decide, by decide⟩ ?_
  refine g_istore_n (T_X12_bits 1 _ _ _ rfl) (by decide) ?_
  refine g_iconst (T_X12_bits 2 _ _ _ rfl) ⟨by decide, by decide⟩ ?_
  refine g_istore_n (T_X12_bits 3 _ _ _ rfl) (by decide) ?_
  refine g_weak [true, true, true] ?_
  refine R_L_X12_bits_4 N   _ _ _ _ _ _ H
def J_X12_laysWho_32 (N : Nat) (k4 : Int → Int → Int → Hp → Option (Int × Hp)) (x1 : Int) (x2 : Int) (x3 : Int) (h : Hp) : Option (Int × Hp) :=
  bnd (w32 (x3 + 1)) fun y1 =>
  k4 x1 x2 y1 h
set_option maxRecDepth 100000 in
set_option maxHeartbeats 4000000 in
theorem R_J_X12_laysWho_32 (N : Nat) (k4 : Int → Int → Int → Hp → Option (Int × Hp)) (hk4 : ∀ (x1 : Int) (x2 : Int) (x3 : Int) (h : Hp) (res : Int × Hp), k4 x1 x2 x3 h = some res → Go M_X12_laysWho 2 4 [some (.inr 84), some (.inl x1), some (.inl x2), some (.inl x3)] [] h (Qi res)) (x1 : Int) (x2 : Int) (x3 : Int) (h : Hp) (res : Int × Hp) (H : J_X12_laysWho_32 N k4 x1 x2 x3 h = some res) : Go M_X12_laysWho 2 32 [some (.inr 84), some (.inl x1), some (.inl x2), some (.inl x3)] [] h (Qi res) := by
  unfold J_X12_laysWho_32 at H
  refine g_iincB (T_X12_laysWho 21 _ _ _ rfl) rfl (by decide) H fun y1 H => ?_
  refine g_goto (tgt := 4) (T_X12_laysWho 22 _ _ _ rfl) (by decide) ?_
  refine g_weak [true, true, true, true] ?_
  exact hk4 _ _ _ _ _ H
def L_X12_laysWho_4 (N : Nat) : Nat → Int → Int → Int → Hp → Option (Int × Hp)
  | 0, _, _, _, _ => none
  | n + 1, x1, x2, x3, h =>
    if 14 ≤ x3 then
      some (x2, h)
    else
    bd (F_X12_has N x1 x3 h) fun y2 h1 =>
    if y2 = 0 then
      J_X12_laysWho_32 N (L_X12_laysWho_4 N n) x1 x2 x3 h1
    else
    grd (0 ≤ x2 ∧ x2 < 8) <|
    bnd (hw h1 118 x2.toNat x3) fun h3 =>
    bnd ((w32 (x2 + 1))) fun y4 =>
    J_X12_laysWho_32 N (L_X12_laysWho_4 N n) x1 y4 x3 h3
set_option maxRecDepth 100000 in
set_option maxHeartbeats 4000000 in
theorem R_L_X12_laysWho_4 (N : Nat) : ∀ (n : Nat) (x1 : Int) (x2 : Int) (x3 : Int) (h : Hp) (res : Int × Hp), L_X12_laysWho_4 N n x1 x2 x3 h = some res → Go M_X12_laysWho 2 4 [some (.inr 84), some (.inl x1), some (.inl x2), some (.inl x3)] [] h (Qi res)
  | 0, _, _, _, _, _, H => by cases H
  | n + 1, x1, x2, x3, h, res, H => by
    have ih := R_L_X12_laysWho_4 N n
    simp only [L_X12_laysWho_4] at H
    refine g_iload_n (T_X12_laysWho 4 _ _ _ rfl) rfl ?_
    refine g_bipush (T_X12_laysWho 5 _ _ _ rfl) (by decide) ?_
    refine g_icmp_ge (tgt := 38) (T_X12_laysWho 6 _ _ _ rfl) (by decide) (fun cc => ?_) (fun cc => ?_)
    · replace H := ite_p cc H
      refine g_iload_n (T_X12_laysWho 23 _ _ _ rfl) rfl ?_
      exact g_iret (T_X12_laysWho 24 _ _ _ rfl) rfl (qi_of H)
    · replace H := ite_n cc H
      refine g_iload_n (T_X12_laysWho 7 _ _ _ rfl) rfl ?_
      refine g_iload_n (T_X12_laysWho 8 _ _ _ rfl) rfl ?_
      obtain ⟨y2, h1, hq, H⟩ := bd_some H
      refine g_callSi (M' := M_X12_has) (av := [.inl x1, .inl x3]) (st := []) (T_X12_laysWho 9 _ _ _ rfl) ml_X12_139 cb_X12_has rfl (Nat.le_of_ble_eq_true rfl) (by omega) (R_X12_has N _ _ _ _ hq) ?_
      refine g_if_ne (tgt := 21) (T_X12_laysWho 10 _ _ _ rfl) (by decide) (fun cc => ?_) (fun cc => ?_)
      · replace H := ite_n cc H
        refine g_aload_n (T_X12_laysWho 12 _ _ _ rfl) rfl ?_
        refine g_getR (c := 83) (r := 119) (T_X12_laysWho 13 _ _ _ rfl) fl_X12_113 rfl (nR rfl) rfl (by decide) ?_
        refine g_iload_n (T_X12_laysWho 14 _ _ _ rfl) rfl ?_
        refine g_iload_n (T_X12_laysWho 15 _ _ _ rfl) rfl ?_
        obtain ⟨hg, H⟩ := grd_some H
        refine g_iast (c := 118) (T_X12_laysWho 16 _ _ _ rfl) rfl hg ?_
        refine g_bndH H fun h3 H => ?_
        refine g_iload_n (T_X12_laysWho 17 _ _ _ rfl) rfl ?_
        refine g_iconst (T_X12_laysWho 18 _ _ _ rfl) ⟨by decide, by decide⟩ ?_
        refine g_iadd (T_X12_laysWho 19 _ _ _ rfl) ?_
        refine g_bndI H fun y4 H => ?_
        refine g_istore_n (T_X12_laysWho 20 _ _ _ rfl) (by decide) ?_
        refine g_weak [true, true, true, true] ?_
        exact R_J_X12_laysWho_32 N (L_X12_laysWho_4 N n) ih _ _ _ _ _ H
      · replace H := ite_p cc H
        refine g_goto (tgt := 32) (T_X12_laysWho 11 _ _ _ rfl) (by decide) ?_
        refine g_weak [true, true, true, true] ?_
        exact R_J_X12_laysWho_32 N (L_X12_laysWho_4 N n) ih _ _ _ _ _ H
def F_X12_laysWho (N : Nat) (x1 : Int) (h : Hp) : Option (Int × Hp) :=
  L_X12_laysWho_4 N  N x1 0 0 h
set_option maxRecDepth 100000 in
set_option maxHeartbeats 4000000 in
theorem R_X12_laysWho (N : Nat) (x1 : Int) (h : Hp) (res : Int × Hp) (H : F_X12_laysWho N x1 h = some res) : Runs M_X12_laysWho 2 [.inr 84, .inl x1] h (Qi res) := by
  refine Runs.of rfl (Nat.le_of_ble_eq_true rfl) ?_
  show Go M_X12_laysWho 2 0 [some (.inr 84), some (.inl x1), none, none] [] h (Qi res)
  unfold F_X12_laysWho at H
  refine g_iconst (T_X12_laysWho 0 _ _ _ rfl) ⟨by decide, by decide⟩ ?_
  refine g_istore_n (T_X12_laysWho 1 _ _ _ rfl) (by decide) ?_
  refine g_iconst (T_X12_laysWho 2 _ _ _ rfl) ⟨by decide, by decide⟩ ?_
  refine g_istore_n (T_X12_laysWho 3 _ _ _ rfl) (by decide) ?_
  refine g_weak [true, true, true, true] ?_
  refine R_L_X12_laysWho_4 N   _ _ _ _ _ _ H
def L_X12_codesFor_4 (N : Nat) : Nat → Int → Int → Int → Int → Hp → Option (Int × Hp)
  | 0, _, _, _, _, _ => none
  | n + 1, x0, x1, x2, x3, h =>
    if x1 ≤ x3 then
      some (x2, h)
    else
    bnd ((w32 (x2 * x0))) fun y1 =>
    bnd (w32 (x3 + 1)) fun y2 =>
    (L_X12_codesFor_4 N n) x0 x1 y1 y2 h
set_option maxRecDepth 100000 in
set_option maxHeartbeats 4000000 in
theorem R_L_X12_codesFor_4 (N : Nat) : ∀ (n : Nat) (x0 : Int) (x1 : Int) (x2 : Int) (x3 : Int) (h : Hp) (res : Int × Hp), L_X12_codesFor_4 N n x0 x1 x2 x3 h = some res → Go M_X12_codesFor 1 4 [some (.inl x0), some (.inl x1), some (.inl x2), some (.inl x3)] [] h (Qi res)
  | 0, _, _, _, _, _, _, H => by cases H
  | n + 1, x0, x1, x2, x3, h, res, H => by
    have ih := R_L_X12_codesFor_4 N n
    simp only [L_X12_codesFor_4] at H
    refine g_iload_n (T_X12_codesFor 4 _ _ _ rfl) rfl ?_
    refine g_iload_n (T_X12_codesFor 5 _ _ _ rfl) rfl ?_
    refine g_icmp_ge (tgt := 19) (T_X12_codesFor 6 _ _ _ rfl) (by decide) (fun cc => ?_) (fun cc => ?_)
    · replace H := ite_p cc H
      refine g_iload_n (T_X12_codesFor 13 _ _ _ rfl) rfl ?_
      exact g_iret (T_X12_codesFor 14 _ _ _ rfl) rfl (qi_of H)
    · replace H := ite_n cc H
      refine g_iload_n (T_X12_codesFor 7 _ _ _ rfl) rfl ?_
      refine g_iload_n (T_X12_codesFor 8 _ _ _ rfl) rfl ?_
      refine g_imul (T_X12_codesFor 9 _ _ _ rfl) ?_
      refine g_bndI H fun y1 H => ?_
      refine g_istore_n (T_X12_codesFor 10 _ _ _ rfl) (by decide) ?_
      refine g_iincB (T_X12_codesFor 11 _ _ _ rfl) rfl (by decide) H fun y2 H => ?_
      refine g_goto (tgt := 4) (T_X12_codesFor 12 _ _ _ rfl) (by decide) ?_
      refine g_weak [true, true, true, true] ?_
      exact ih _ _ _ _ _ _ H
def F_X12_codesFor (N : Nat) (x0 : Int) (x1 : Int) (h : Hp) : Option (Int × Hp) :=
  L_X12_codesFor_4 N  N x0 x1 1 0 h
set_option maxRecDepth 100000 in
set_option maxHeartbeats 4000000 in
theorem R_X12_codesFor (N : Nat) (x0 : Int) (x1 : Int) (h : Hp) (res : Int × Hp) (H : F_X12_codesFor N x0 x1 h = some res) : Runs M_X12_codesFor 1 [.inl x0, .inl x1] h (Qi res) := by
  refine Runs.of rfl (Nat.le_of_ble_eq_true rfl) ?_
  show Go M_X12_codesFor 1 0 [some (.inl x0), some (.inl x1), none, none] [] h (Qi res)
  unfold F_X12_codesFor at H
  refine g_iconst (T_X12_codesFor 0 _ _ _ rfl) ⟨by decide, by decide⟩ ?_
  refine g_istore_n (T_X12_codesFor 1 _ _ _ rfl) (by decide) ?_
  refine g_iconst (T_X12_codesFor 2 _ _ _ rfl) ⟨by decide, by decide⟩ ?_
  refine g_istore_n (T_X12_codesFor 3 _ _ _ rfl) (by decide) ?_
  refine g_weak [true, true, true, true] ?_
  refine R_L_X12_codesFor_4 N   _ _ _ _ _ _ _ H
def L_X12_readsRow_10 (N : Nat) : Nat → Int → Int → Int → Int → Hp → Option (Int × Hp)
  | 0, _, _, _, _, _ => none
  | n + 1, x2, x3, x4, x5, h =>
    if x5 < 0 then
      some (1, h)
    else
    grd (x2 ≠ 0) <|
    grd (0 ≤ x5 ∧ x5 < 8) <|
    bnd (hw h 119 x5.toNat (irem x3 x2)) fun h1 =>
    grd (x2 ≠ 0) <|
    bnd ((idiv x3 x2)) fun y2 =>
    grd (0 ≤ x5 ∧ x5 < 8) <|
    bd (F_X12_has N x4 (h1 119 x5.toNat) h1) fun y4 h3 =>
    if y4 = 0 then
      grd (0 ≤ x5 ∧ x5 < 8) <|
      bnd ((ior x4 (ishl 1 (h3 119 x5.toNat)))) fun y5 =>
      bnd (w32 (x5 + (-1))) fun y6 =>
      (L_X12_readsRow_10 N n) x2 y2 y5 y6 h3
    else
    some (0, h3)
set_option maxRecDepth 100000 in
set_option maxHeartbeats 4000000 in
theorem R_L_X12_readsRow_10 (N : Nat) : ∀ (n : Nat) (x2 : Int) (x3 : Int) (x4 : Int) (x5 : Int) (h : Hp) (res : Int × Hp), L_X12_readsRow_10 N n x2 x3 x4 x5 h = some res → Go M_X12_readsRow 2 10 [some (.inr 84), none, some (.inl x2), some (.inl x3), some (.inl x4), some (.inl x5)] [] h (Qi res)
  | 0, _, _, _, _, _, _, H => by cases H
  | n + 1, x2, x3, x4, x5, h, res, H => by
    have ih := R_L_X12_readsRow_10 N n
    simp only [L_X12_readsRow_10] at H
    refine g_iload (T_X12_readsRow 8 _ _ _ rfl) rfl ?_
    refine g_if_lt (tgt := 66) (T_X12_readsRow 9 _ _ _ rfl) (by decide) (fun cc => ?_) (fun cc => ?_)
    · replace H := ite_p cc H
      refine g_iconst (T_X12_readsRow 41 _ _ _ rfl) ⟨by decide, by decide⟩ ?_
      exact g_zret (T_X12_readsRow 42 _ _ _ rfl) rfl (by decide) (qi_of H)
    · replace H := ite_n cc H
      refine g_aload_n (T_X12_readsRow 10 _ _ _ rfl) rfl ?_
      refine g_getR (c := 83) (r := 120) (T_X12_readsRow 11 _ _ _ rfl) fl_X12_116 rfl (nR rfl) rfl (by decide) ?_
      refine g_iload (T_X12_readsRow 12 _ _ _ rfl) rfl ?_
      refine g_iload_n (T_X12_readsRow 13 _ _ _ rfl) rfl ?_
      refine g_iload_n (T_X12_readsRow 14 _ _ _ rfl) rfl ?_
      obtain ⟨hg, H⟩ := grd_some H
      refine g_irem (T_X12_readsRow 15 _ _ _ rfl) hg ?_
      obtain ⟨hg, H⟩ := grd_some H
      refine g_iast (c := 119) (T_X12_readsRow 16 _ _ _ rfl) rfl hg ?_
      refine g_bndH H fun h1 H => ?_
      refine g_iload_n (T_X12_readsRow 17 _ _ _ rfl) rfl ?_
      refine g_iload_n (T_X12_readsRow 18 _ _ _ rfl) rfl ?_
      obtain ⟨hg, H⟩ := grd_some H
      refine g_idiv (T_X12_readsRow 19 _ _ _ rfl) hg ?_
      refine g_bndI H fun y2 H => ?_
      refine g_istore_n (T_X12_readsRow 20 _ _ _ rfl) (by decide) ?_
      refine g_iload (T_X12_readsRow 21 _ _ _ rfl) rfl ?_
      refine g_aload_n (T_X12_readsRow 22 _ _ _ rfl) rfl ?_
      refine g_getR (c := 83) (r := 120) (T_X12_readsRow 23 _ _ _ rfl) fl_X12_116 rfl (nR rfl) rfl (by decide) ?_
      refine g_iload (T_X12_readsRow 24 _ _ _ rfl) rfl ?_
      obtain ⟨hg, H⟩ := grd_some H
      refine g_iald (c := 119) (T_X12_readsRow 25 _ _ _ rfl) rfl hg ?_
      obtain ⟨y4, h3, hq, H⟩ := bd_some H
      refine g_callSi (M' := M_X12_has) (av := [.inl x4, .inl (h1 119 x5.toNat)]) (st := []) (T_X12_readsRow 26 _ _ _ rfl) ml_X12_139 cb_X12_has rfl (Nat.le_of_ble_eq_true rfl) (by omega) (R_X12_has N _ _ _ _ hq) ?_
      refine g_if_eq (tgt := 46) (T_X12_readsRow 27 _ _ _ rfl) (by decide) (fun cc => ?_) (fun cc => ?_)
      · replace H := ite_p cc H
        refine g_iload (T_X12_readsRow 30 _ _ _ rfl) rfl ?_
        refine g_iconst (T_X12_readsRow 31 _ _ _ rfl) ⟨by decide, by decide⟩ ?_
        refine g_aload_n (T_X12_readsRow 32 _ _ _ rfl) rfl ?_
        refine g_getR (c := 83) (r := 120) (T_X12_readsRow 33 _ _ _ rfl) fl_X12_116 rfl (nR rfl) rfl (by decide) ?_
        refine g_iload (T_X12_readsRow 34 _ _ _ rfl) rfl ?_
        obtain ⟨hg, H⟩ := grd_some H
        refine g_iald (c := 119) (T_X12_readsRow 35 _ _ _ rfl) rfl hg ?_
        refine g_ishl (T_X12_readsRow 36 _ _ _ rfl) ?_
        refine g_ior (T_X12_readsRow 37 _ _ _ rfl) ?_
        refine g_bndI H fun y5 H => ?_
        refine g_istore (T_X12_readsRow 38 _ _ _ rfl) (by decide) ?_
        refine g_iincB (T_X12_readsRow 39 _ _ _ rfl) rfl (by decide) H fun y6 H => ?_
        refine g_goto (tgt := 10) (T_X12_readsRow 40 _ _ _ rfl) (by decide) ?_
        refine g_weak [true, false, true, true, true, true] ?_
        exact ih _ _ _ _ _ _ H
      · replace H := ite_n cc H
        refine g_iconst (T_X12_readsRow 28 _ _ _ rfl) ⟨by decide, by decide⟩ ?_
        exact g_zret (T_X12_readsRow 29 _ _ _ rfl) rfl (by decide) (qi_of H)
def F_X12_readsRow (N : Nat) (x1 : Int) (x2 : Int) (h : Hp) : Option (Int × Hp) :=
  bnd ((w32 (x2 - 1))) fun y1 =>
  L_X12_readsRow_10 N  N x2 x1 0 y1 h
set_option maxRecDepth 100000 in
set_option maxHeartbeats 4000000 in
theorem R_X12_readsRow (N : Nat) (x1 : Int) (x2 : Int) (h : Hp) (res : Int × Hp) (H : F_X12_readsRow N x1 x2 h = some res) : Runs M_X12_readsRow 2 [.inr 84, .inl x1, .inl x2] h (Qi res) := by
  refine Runs.of rfl (Nat.le_of_ble_eq_true rfl) ?_
  show Go M_X12_readsRow 2 0 [some (.inr 84), some (.inl x1), some (.inl x2), none, none, none] [] h (Qi res)
  unfold F_X12_readsRow at H
  refine g_iload_n (T_X12_readsRow 0 _ _ _ rfl) rfl ?_
  refine g_istore_n (T_X12_readsRow 1 _ _ _ rfl) (by decide) ?_
  refine g_iconst (T_X12_readsRow 2 _ _ _ rfl) ⟨by decide, by decide⟩ ?_
  refine g_istore (T_X12_readsRow 3 _ _ _ rfl) (by decide) ?_
  refine g_iload_n (T_X12_readsRow 4 _ _ _ rfl) rfl ?_
  refine g_iconst (T_X12_readsRow 5 _ _ _ rfl) ⟨by decide, by decide⟩ ?_
  refine g_isub (T_X12_readsRow 6 _ _ _ rfl) ?_
  refine g_bndI H fun y1 H => ?_
  refine g_istore (T_X12_readsRow 7 _ _ _ rfl) (by decide) ?_
  refine g_weak [true, false, true, true, true, true] ?_
  refine R_L_X12_readsRow_10 N   _ _ _ _ _ _ _ H
def L_X12_roundBy_8 (N : Nat) : Nat → Int → Int → Int → Int → Int → Hp → Option (Int × Hp)
  | 0, _, _, _, _, _, _ => none
  | n + 1, x1, x2, x3, x4, x5, h =>
    if x2 ≤ x5 then
      bd (F_X12_farOf N x4 x1 h) fun y2 h1 =>
      some ((w32 (x3 + y2)), h1)
    else
    grd (0 ≤ x5 ∧ x5 < 8) <|
    grd (0 ≤ (h 119 x5.toNat) ∧ (h 119 x5.toNat) < 8) <|
    bd (F_X12_farOf N x4 (h 118 (h 119 x5.toNat).toNat) h) fun y4 h3 =>
    bnd ((w32 (x3 + y4))) fun y5 =>
    grd (0 ≤ x5 ∧ x5 < 8) <|
    grd (0 ≤ (h3 119 x5.toNat) ∧ (h3 119 x5.toNat) < 8) <|
    bnd ((h3 118 (h3 119 x5.toNat).toNat)) fun y6 =>
    bnd (w32 (x5 + 1)) fun y7 =>
    (L_X12_roundBy_8 N n) x1 x2 y5 y6 y7 h3
set_option maxRecDepth 100000 in
set_option maxHeartbeats 4000000 in
theorem R_L_X12_roundBy_8 (N : Nat) : ∀ (n : Nat) (x1 : Int) (x2 : Int) (x3 : Int) (x4 : Int) (x5 : Int) (h : Hp) (res : Int × Hp), L_X12_roundBy_8 N n x1 x2 x3 x4 x5 h = some res → Go M_X12_roundBy 2 8 [some (.inr 84), some (.inl x1), some (.inl x2), some (.inl x3), some (.inl x4), some (.inl x5)] [] h (Qi res)
  | 0, _, _, _, _, _, _, _, H => by cases H
  | n + 1, x1, x2, x3, x4, x5, h, res, H => by
    have ih := R_L_X12_roundBy_8 N n
    simp only [L_X12_roundBy_8] at H
    refine g_iload (T_X12_roundBy 6 _ _ _ rfl) rfl ?_
    refine g_iload_n (T_X12_roundBy 7 _ _ _ rfl) rfl ?_
    refine g_icmp_ge (tgt := 55) (T_X12_roundBy 8 _ _ _ rfl) (by decide) (fun cc => ?_) (fun cc => ?_)
    · replace H := ite_p cc H
      refine g_iload_n (T_X12_roundBy 32 _ _ _ rfl) rfl ?_
      refine g_aload_n (T_X12_roundBy 33 _ _ _ rfl) rfl ?_
      refine g_iload (T_X12_roundBy 34 _ _ _ rfl) rfl ?_
      refine g_iload_n (T_X12_roundBy 35 _ _ _ rfl) rfl ?_
      obtain ⟨y2, h1, hq, H⟩ := bd_some H
      refine g_callVi (M' := M_X12_farOf) (c := 83) (av := [.inl x4, .inl x1]) (st := [.inl x3]) (T_X12_roundBy 36 _ _ _ rfl) ml_X12_293 cb_X12_farOf rfl rfl (Nat.le_of_ble_eq_true rfl) (by omega) (R_X12_farOf N _ _ _ _ hq) ?_
      refine g_iadd (T_X12_roundBy 37 _ _ _ rfl) ?_
      exact g_iret (T_X12_roundBy 38 _ _ _ rfl) rfl (qi_of H)
    · replace H := ite_n cc H
      refine g_iload_n (T_X12_roundBy 9 _ _ _ rfl) rfl ?_
      refine g_aload_n (T_X12_roundBy 10 _ _ _ rfl) rfl ?_
      refine g_iload (T_X12_roundBy 11 _ _ _ rfl) rfl ?_
      refine g_aload_n (T_X12_roundBy 12 _ _ _ rfl) rfl ?_
      refine g_getR (c := 83) (r := 119) (T_X12_roundBy 13 _ _ _ rfl) fl_X12_113 rfl (nR rfl) rfl (by decide) ?_
      refine g_aload_n (T_X12_roundBy 14 _ _ _ rfl) rfl ?_
      refine g_getR (c := 83) (r := 120) (T_X12_roundBy 15 _ _ _ rfl) fl_X12_116 rfl (nR rfl) rfl (by decide) ?_
      refine g_iload (T_X12_roundBy 16 _ _ _ rfl) rfl ?_
      obtain ⟨hg, H⟩ := grd_some H
      refine g_iald (c := 119) (T_X12_roundBy 17 _ _ _ rfl) rfl hg ?_
      obtain ⟨hg, H⟩ := grd_some H
      refine g_iald (c := 118) (T_X12_roundBy 18 _ _ _ rfl) rfl hg ?_
      obtain ⟨y4, h3, hq, H⟩ := bd_some H
      refine g_callVi (M' := M_X12_farOf) (c := 83) (av := [.inl x4, .inl (h 118 (h 119 x5.toNat).toNat)]) (st := [.inl x3]) (T_X12_roundBy 19 _ _ _ rfl) ml_X12_293 cb_X12_farOf rfl rfl (Nat.le_of_ble_eq_true rfl) (by omega) (R_X12_farOf N _ _ _ _ hq) ?_
      refine g_iadd (T_X12_roundBy 20 _ _ _ rfl) ?_
      refine g_bndI H fun y5 H => ?_
      refine g_istore_n (T_X12_roundBy 21 _ _ _ rfl) (by decide) ?_
      refine g_aload_n (T_X12_roundBy 22 _ _ _ rfl) rfl ?_
      refine g_getR (c := 83) (r := 119) (T_X12_roundBy 23 _ _ _ rfl) fl_X12_113 rfl (nR rfl) rfl (by decide) ?_
      refine g_aload_n (T_X12_roundBy 24 _ _ _ rfl) rfl ?_
      refine g_getR (c := 83) (r := 120) (T_X12_roundBy 25 _ _ _ rfl) fl_X12_116 rfl (nR rfl) rfl (by decide) ?_
      refine g_iload (T_X12_roundBy 26 _ _ _ rfl) rfl ?_
      obtain ⟨hg, H⟩ := grd_some H
      refine g_iald (c := 119) (T_X12_roundBy 27 _ _ _ rfl) rfl hg ?_
      obtain ⟨hg, H⟩ := grd_some H
      refine g_iald (c := 118) (T_X12_roundBy 28 _ _ _ rfl) rfl hg ?_
      refine g_bndI H fun y6 H => ?_
      refine g_istore (T_X12_roundBy 29 _ _ _ rfl) (by decide) ?_
      refine g_iincB (T_X12_roundBy 30 _ _ _ rfl) rfl (by decide) H fun y7 H => ?_
      refine g_goto (tgt := 8) (T_X12_roundBy 31 _ _ _ rfl) (by decide) ?_
      refine g_weak [true, true, true, true, true, true] ?_
      exact ih _ _ _ _ _ _ _ H
def F_X12_roundBy (N : Nat) (x1 : Int) (x2 : Int) (h : Hp) : Option (Int × Hp) :=
  L_X12_roundBy_8 N  N x1 x2 0 x1 0 h
set_option maxRecDepth 100000 in
set_option maxHeartbeats 4000000 in
theorem R_X12_roundBy (N : Nat) (x1 : Int) (x2 : Int) (h : Hp) (res : Int × Hp) (H : F_X12_roundBy N x1 x2 h = some res) : Runs M_X12_roundBy 2 [.inr 84, .inl x1, .inl x2] h (Qi res) := by
  refine Runs.of rfl (Nat.le_of_ble_eq_true rfl) ?_
  show Go M_X12_roundBy 2 0 [some (.inr 84), some (.inl x1), some (.inl x2), none, none, none] [] h (Qi res)
  unfold F_X12_roundBy at H
  refine g_iconst (T_X12_roundBy 0 _ _ _ rfl) ⟨by decide, by decide⟩ ?_
  refine g_istore_n (T_X12_roundBy 1 _ _ _ rfl) (by decide) ?_
  refine g_iload_n (T_X12_roundBy 2 _ _ _ rfl) rfl ?_
  refine g_istore (T_X12_roundBy 3 _ _ _ rfl) (by decide) ?_
  refine g_iconst (T_X12_roundBy 4 _ _ _ rfl) ⟨by decide, by decide⟩ ?_
  refine g_istore (T_X12_roundBy 5 _ _ _ rfl) (by decide) ?_
  refine g_weak [true, true, true, true, true, true] ?_
  refine R_L_X12_roundBy_8 N   _ _ _ _ _ _ _ _ H
def J_X12_round_167 (N : Nat) (k116 : Int → Int → Int → Int → Int → Int → Hp → Option (Int × Hp)) (x1 : Int) (x3 : Int) (x4 : Int) (x5 : Int) (x6 : Int) (x7 : Int) (h : Hp) : Option (Int × Hp) :=
  bnd (w32 (x7 + 1)) fun y1 =>
  k116 x1 x3 x4 x5 x6 y1 h
set_option maxRecDepth 100000 in
set_option maxHeartbeats 4000000 in
theorem R_J_X12_round_167 (N : Nat) (k116 : Int → Int → Int → Int → Int → Int → Hp → Option (Int × Hp)) (hk116 : ∀ (x1 : Int) (x3 : Int) (x4 : Int) (x5 : Int) (x6 : Int) (x7 : Int) (h : Hp) (res : Int × Hp), k116 x1 x3 x4 x5 x6 x7 h = some res → Go M_X12_round 3 116 [some (.inr 84), some (.inl x1), none, some (.inl x3), some (.inl x4), some (.inl x5), some (.inl x6), some (.inl x7)] [] h (Qi res)) (x1 : Int) (x3 : Int) (x4 : Int) (x5 : Int) (x6 : Int) (x7 : Int) (h : Hp) (res : Int × Hp) (H : J_X12_round_167 N k116 x1 x3 x4 x5 x6 x7 h = some res) : Go M_X12_round 3 167 [some (.inr 84), some (.inl x1), none, some (.inl x3), some (.inl x4), some (.inl x5), some (.inl x6), some (.inl x7)] [] h (Qi res) := by
  unfold J_X12_round_167 at H
  refine g_iincB (T_X12_round 88 _ _ _ rfl) rfl (by decide) H fun y1 H => ?_
  refine g_goto (tgt := 116) (T_X12_round 89 _ _ _ rfl) (by decide) ?_
  refine g_weak [true, true, false, true, true, true, true, true] ?_
  exact hk116 _ _ _ _ _ _ _ _ H
def L_X12_round_116 (N : Nat) : Nat → Int → Int → Int → Int → Int → Int → Hp → Option (Int × Hp)
  | 0, _, _, _, _, _, _, _ => none
  | n + 1, x1, x3, x4, x5, x6, x7, h =>
    bd (F_X12_codesFor N x4 x4 h) fun y2 h1 =>
    if y2 ≤ x7 then
      if x3 = 20 then
        some (x6, h1)
      else
      bd (F_X12_readsRow N x5 x4 h1) fun y4 h3 =>
      grd (0 ≤ x3 ∧ x3 < 8) <|
      grd (0 ≤ (h3 119 x3.toNat) ∧ (h3 119 x3.toNat) < 8) <|
      some ((h3 118 (h3 119 x3.toNat).toNat), h3)
    else
    bd (F_X12_readsRow N x7 x4 h1) fun y6 h5 =>
    if y6 = 0 then
      J_X12_round_167 N (L_X12_round_116 N n) x1 x3 x4 x5 x6 x7 h5
    else
    bd (F_X12_roundBy N x1 x4 h5) fun y8 h7 =>
    if y8 < x6 then
      bd (F_X12_roundBy N x1 x4 h7) fun y10 h9 =>
      J_X12_round_167 N (L_X12_round_116 N n) x1 x3 x4 x7 y10 x7 h9
    else
    J_X12_round_167 N (L_X12_round_116 N n) x1 x3 x4 x5 x6 x7 h7
set_option maxRecDepth 100000 in
set_option maxHeartbeats 4000000 in
theorem R_L_X12_round_116 (N : Nat) : ∀ (n : Nat) (x1 : Int) (x3 : Int) (x4 : Int) (x5 : Int) (x6 : Int) (x7 : Int) (h : Hp) (res : Int × Hp), L_X12_round_116 N n x1 x3 x4 x5 x6 x7 h = some res → Go M_X12_round 3 116 [some (.inr 84), some (.inl x1), none, some (.inl x3), some (.inl x4), some (.inl x5), some (.inl x6), some (.inl x7)] [] h (Qi res)
  | 0, _, _, _, _, _, _, _, _, H => by cases H
  | n + 1, x1, x3, x4, x5, x6, x7, h, res, H => by
    have ih := R_L_X12_round_116 N n
    simp only [L_X12_round_116] at H
    refine g_iload (T_X12_round 64 _ _ _ rfl) rfl ?_
    refine g_iload (T_X12_round 65 _ _ _ rfl) rfl ?_
    refine g_iload (T_X12_round 66 _ _ _ rfl) rfl ?_
    obtain ⟨y2, h1, hq, H⟩ := bd_some H
    refine g_callSi (M' := M_X12_codesFor) (av := [.inl x4, .inl x4]) (st := [.inl x7]) (T_X12_round 67 _ _ _ rfl) ml_X12_354 cb_X12_codesFor rfl (Nat.le_of_ble_eq_true rfl) (by omega) (R_X12_codesFor N _ _ _ _ hq) ?_
    refine g_icmp_ge (tgt := 173) (T_X12_round 68 _ _ _ rfl) (by decide) (fun cc => ?_) (fun cc => ?_)
    · replace H := ite_p cc H
      refine g_iload_n (T_X12_round 90 _ _ _ rfl) rfl ?_
      refine g_bipush (T_X12_round 91 _ _ _ rfl) (by decide) ?_
      refine g_icmp_ne (tgt := 182) (T_X12_round 92 _ _ _ rfl) (by decide) (fun cc => ?_) (fun cc => ?_)
      · replace H := ite_n cc H
        refine g_aload_n (T_X12_round 95 _ _ _ rfl) rfl ?_
        refine g_iload (T_X12_round 96 _ _ _ rfl) rfl ?_
        refine g_iload (T_X12_round 97 _ _ _ rfl) rfl ?_
        obtain ⟨y4, h3, hq, H⟩ := bd_some H
        refine g_callVi (M' := M_X12_readsRow) (c := 83) (av := [.inl x5, .inl x4]) (st := []) (T_X12_round 98 _ _ _ rfl) ml_X12_357 cb_X12_readsRow rfl rfl (Nat.le_of_ble_eq_true rfl) (by omega) (R_X12_readsRow N _ _ _ _ hq) ?_
        refine g_pop (T_X12_round 99 _ _ _ rfl) ?_
        refine g_aload_n (T_X12_round 100 _ _ _ rfl) rfl ?_
        refine g_getR (c := 83) (r := 119) (T_X12_round 101 _ _ _ rfl) fl_X12_113 rfl (nR rfl) rfl (by decide) ?_
        refine g_aload_n (T_X12_round 102 _ _ _ rfl) rfl ?_
        refine g_getR (c := 83) (r := 120) (T_X12_round 103 _ _ _ rfl) fl_X12_116 rfl (nR rfl) rfl (by decide) ?_
        refine g_iload_n (T_X12_round 104 _ _ _ rfl) rfl ?_
        obtain ⟨hg, H⟩ := grd_some H
        refine g_iald (c := 119) (T_X12_round 105 _ _ _ rfl) rfl hg ?_
        obtain ⟨hg, H⟩ := grd_some H
        refine g_iald (c := 118) (T_X12_round 106 _ _ _ rfl) rfl hg ?_
        exact g_iret (T_X12_round 107 _ _ _ rfl) rfl (qi_of H)
      · replace H := ite_p cc H
        refine g_iload (T_X12_round 93 _ _ _ rfl) rfl ?_
        exact g_iret (T_X12_round 94 _ _ _ rfl) rfl (qi_of H)
    · replace H := ite_n cc H
      refine g_aload_n (T_X12_round 69 _ _ _ rfl) rfl ?_
      refine g_iload (T_X12_round 70 _ _ _ rfl) rfl ?_
      refine g_iload (T_X12_round 71 _ _ _ rfl) rfl ?_
      obtain ⟨y6, h5, hq, H⟩ := bd_some H
      refine g_callVi (M' := M_X12_readsRow) (c := 83) (av := [.inl x7, .inl x4]) (st := []) (T_X12_round 72 _ _ _ rfl) ml_X12_357 cb_X12_readsRow rfl rfl (Nat.le_of_ble_eq_true rfl) (by omega) (R_X12_readsRow N _ _ _ _ hq) ?_
      refine g_if_eq (tgt := 167) (T_X12_round 73 _ _ _ rfl) (by decide) (fun cc => ?_) (fun cc => ?_)
      · replace H := ite_p cc H
        refine g_weak [true, true, false, true, true, true, true, true] ?_
        exact R_J_X12_round_167 N (L_X12_round_116 N n) ih _ _ _ _ _ _ _ _ H
      · replace H := ite_n cc H
        refine g_aload_n (T_X12_round 74 _ _ _ rfl) rfl ?_
        refine g_iload_n (T_X12_round 75 _ _ _ rfl) rfl ?_
        refine g_iload (T_X12_round 76 _ _ _ rfl) rfl ?_
        obtain ⟨y8, h7, hq, H⟩ := bd_some H
        refine g_callVi (M' := M_X12_roundBy) (c := 83) (av := [.inl x1, .inl x4]) (st := []) (T_X12_round 77 _ _ _ rfl) ml_X12_360 cb_X12_roundBy rfl rfl (Nat.le_of_ble_eq_true rfl) (by omega) (R_X12_roundBy N _ _ _ _ hq) ?_
        refine g_iload (T_X12_round 78 _ _ _ rfl) rfl ?_
        refine g_icmp_lt (tgt := 154) (T_X12_round 79 _ _ _ rfl) (by decide) (fun cc => ?_) (fun cc => ?_)
        · replace H := ite_p cc H
          refine g_aload_n (T_X12_round 81 _ _ _ rfl) rfl ?_
          refine g_iload_n (T_X12_round 82 _ _ _ rfl) rfl ?_
          refine g_iload (T_X12_round 83 _ _ _ rfl) rfl ?_
          obtain ⟨y10, h9, hq, H⟩ := bd_some H
          refine g_callVi (M' := M_X12_roundBy) (c := 83) (av := [.inl x1, .inl x4]) (st := []) (T_X12_round 84 _ _ _ rfl) ml_X12_360 cb_X12_roundBy rfl rfl (Nat.le_of_ble_eq_true rfl) (by omega) (R_X12_roundBy N _ _ _ _ hq) ?_
          refine g_istore (T_X12_round 85 _ _ _ rfl) (by decide) ?_
          refine g_iload (T_X12_round 86 _ _ _ rfl) rfl ?_
          refine g_istore (T_X12_round 87 _ _ _ rfl) (by decide) ?_
          refine g_weak [true, true, false, true, true, true, true, true] ?_
          exact R_J_X12_round_167 N (L_X12_round_116 N n) ih _ _ _ _ _ _ _ _ H
        · replace H := ite_n cc H
          refine g_goto (tgt := 167) (T_X12_round 80 _ _ _ rfl) (by decide) ?_
          refine g_weak [true, true, false, true, true, true, true, true] ?_
          exact R_J_X12_round_167 N (L_X12_round_116 N n) ih _ _ _ _ _ _ _ _ H
def L_X12_round_73 (N : Nat) : Nat → Int → Int → Int → Int → Hp → Option (Int × Hp)
  | 0, _, _, _, _, _ => none
  | n + 1, x1, x3, x4, x5, h =>
    if x4 ≤ x5 then
      L_X12_round_116 N  N x1 x3 x4 (-1) 1000000 0 h
    else
    grd (0 ≤ x5 ∧ x5 < 8) <|
    bd (F_X12_farOf N x1 (h 118 x5.toNat) h) fun y2 h1 =>
    if y2 < 1000000 then
      bnd (w32 (x5 + 1)) fun y3 =>
      (L_X12_round_73 N n) x1 x3 x4 y3 h1
    else
    some ((-2), h1)
set_option maxRecDepth 100000 in
set_option maxHeartbeats 4000000 in
theorem R_L_X12_round_73 (N : Nat) : ∀ (n : Nat) (x1 : Int) (x3 : Int) (x4 : Int) (x5 : Int) (h : Hp) (res : Int × Hp), L_X12_round_73 N n x1 x3 x4 x5 h = some res → Go M_X12_round 3 73 [some (.inr 84), some (.inl x1), none, some (.inl x3), some (.inl x4), some (.inl x5), none, none] [] h (Qi res)
  | 0, _, _, _, _, _, _, H => by cases H
  | n + 1, x1, x3, x4, x5, h, res, H => by
    have ih := R_L_X12_round_73 N n
    simp only [L_X12_round_73] at H
    refine g_iload (T_X12_round 42 _ _ _ rfl) rfl ?_
    refine g_iload (T_X12_round 43 _ _ _ rfl) rfl ?_
    refine g_icmp_ge (tgt := 106) (T_X12_round 44 _ _ _ rfl) (by decide) (fun cc => ?_) (fun cc => ?_)
    · replace H := ite_p cc H
      refine g_iconst (T_X12_round 58 _ _ _ rfl) ⟨by decide, by decide⟩ ?_
      refine g_istore (T_X12_round 59 _ _ _ rfl) (by decide) ?_
      refine g_ldc (T_X12_round 60 _ _ _ rfl) kc_X12_150 ⟨by decide, by decide⟩ ?_
      refine g_istore (T_X12_round 61 _ _ _ rfl) (by decide) ?_
      refine g_iconst (T_X12_round 62 _ _ _ rfl) ⟨by decide, by decide⟩ ?_
      refine g_istore (T_X12_round 63 _ _ _ rfl) (by decide) ?_
      refine g_weak [true, true, false, true, true, true, true, true] ?_
      refine R_L_X12_round_116 N   _ _ _ _ _ _ _ _ _ H
    · replace H := ite_n cc H
      refine g_aload_n (T_X12_round 45 _ _ _ rfl) rfl ?_
      refine g_iload_n (T_X12_round 46 _ _ _ rfl) rfl ?_
      refine g_aload_n (T_X12_round 47 _ _ _ rfl) rfl ?_
      refine g_getR (c := 83) (r := 119) (T_X12_round 48 _ _ _ rfl) fl_X12_113 rfl (nR rfl) rfl (by decide) ?_
      refine g_iload (T_X12_round 49 _ _ _ rfl) rfl ?_
      obtain ⟨hg, H⟩ := grd_some H
      refine g_iald (c := 118) (T_X12_round 50 _ _ _ rfl) rfl hg ?_
      obtain ⟨y2, h1, hq, H⟩ := bd_some H
      refine g_callVi (M' := M_X12_farOf) (c := 83) (av := [.inl x1, .inl (h 118 x5.toNat)]) (st := []) (T_X12_round 51 _ _ _ rfl) ml_X12_293 cb_X12_farOf rfl rfl (Nat.le_of_ble_eq_true rfl) (by omega) (R_X12_farOf N _ _ _ _ hq) ?_
      refine g_ldc (T_X12_round 52 _ _ _ rfl) kc_X12_150 ⟨by decide, by decide⟩ ?_
      refine g_icmp_lt (tgt := 100) (T_X12_round 53 _ _ _ rfl) (by decide) (fun cc => ?_) (fun cc => ?_)
      · replace H := ite_p cc H
        refine g_iincB (T_X12_round 56 _ _ _ rfl) rfl (by decide) H fun y3 H => ?_
        refine g_goto (tgt := 73) (T_X12_round 57 _ _ _ rfl) (by decide) ?_
        refine g_weak [true, true, false, true, true, true, false, false] ?_
        exact ih _ _ _ _ _ _ H
      · replace H := ite_n cc H
        refine g_bipush (T_X12_round 54 _ _ _ rfl) (by decide) ?_
        exact g_iret (T_X12_round 55 _ _ _ rfl) rfl (qi_of H)
def F_X12_round (N : Nat) (x1 : Int) (x2 : Int) (x3 : Int) (h : Hp) : Option (Int × Hp) :=
  bd (F_X12_isStreet N x1 h) fun y2 h1 =>
  if y2 = 0 then
    some ((-1), h1)
  else
  if x2 < 1 then
    some ((-1), h1)
  else
  if (iand x2 (ixor (h1 83 12) (-1))) = 0 then
    bd (F_X12_has N x2 x1 h1) fun y4 h3 =>
    if y4 = 0 then
      bd (F_X12_bits N x2 h3) fun y6 h5 =>
      if y6 ≤ 7 then
        bd (F_X12_laysWho N x2 h5) fun y8 h7 =>
        if x3 = 20 then
          L_X12_round_73 N  N x1 x3 y8 0 h7
        else
        bd (F_X12_in N x3 0 (w32 (y8 - 1)) h7) fun y10 h9 =>
        if y10 = 0 then
          some ((-1), h9)
        else
        L_X12_round_73 N  N x1 x3 y8 0 h9
      else
      some ((-1), h5)
    else
    some ((-1), h3)
  else
  some ((-1), h1)
set_option maxRecDepth 100000 in
set_option maxHeartbeats 4000000 in
theorem R_X12_round (N : Nat) (x1 : Int) (x2 : Int) (x3 : Int) (h : Hp) (res : Int × Hp) (H : F_X12_round N x1 x2 x3 h = some res) : Runs M_X12_round 3 [.inr 84, .inl x1, .inl x2, .inl x3] h (Qi res) := by
  refine Runs.of rfl (Nat.le_of_ble_eq_true rfl) ?_
  show Go M_X12_round 3 0 [some (.inr 84), some (.inl x1), some (.inl x2), some (.inl x3), none, none, none, none] [] h (Qi res)
  unfold F_X12_round at H
  refine g_aload_n (T_X12_round 0 _ _ _ rfl) rfl ?_
  refine g_iload_n (T_X12_round 1 _ _ _ rfl) rfl ?_
  obtain ⟨y2, h1, hq, H⟩ := bd_some H
  refine g_callVi (M' := M_X12_isStreet) (c := 83) (av := [.inl x1]) (st := []) (T_X12_round 2 _ _ _ rfl) ml_X12_146 cb_X12_isStreet rfl rfl (Nat.le_of_ble_eq_true rfl) (by omega) (R_X12_isStreet N _ _ _ hq) ?_
  refine g_if_eq (tgt := 41) (T_X12_round 3 _ _ _ rfl) (by decide) (fun cc => ?_) (fun cc => ?_)
  · replace H := ite_p cc H
    refine g_iconst (T_X12_round 22 _ _ _ rfl) ⟨by decide, by decide⟩ ?_
    exact g_iret (T_X12_round 23 _ _ _ rfl) rfl (qi_of H)
  · replace H := ite_n cc H
    refine g_iload_n (T_X12_round 4 _ _ _ rfl) rfl ?_
    refine g_iconst (T_X12_round 5 _ _ _ rfl) ⟨by decide, by decide⟩ ?_
    refine g_icmp_lt (tgt := 41) (T_X12_round 6 _ _ _ rfl) (by decide) (fun cc => ?_) (fun cc => ?_)
    · replace H := ite_p cc H
      refine g_iconst (T_X12_round 22 _ _ _ rfl) ⟨by decide, by decide⟩ ?_
      exact g_iret (T_X12_round 23 _ _ _ rfl) rfl (qi_of H)
    · replace H := ite_n cc H
      refine g_iload_n (T_X12_round 7 _ _ _ rfl) rfl ?_
      refine g_aload_n (T_X12_round 8 _ _ _ rfl) rfl ?_
      refine g_getI (c := 83) (T_X12_round 9 _ _ _ rfl) fl_X12_135 rfl (Or.inl rfl) ?_
      refine g_iconst (T_X12_round 10 _ _ _ rfl) ⟨by decide, by decide⟩ ?_
      refine g_ixor (T_X12_round 11 _ _ _ rfl) ?_
      refine g_iand (T_X12_round 12 _ _ _ rfl) ?_
      refine g_if_ne (tgt := 41) (T_X12_round 13 _ _ _ rfl) (by decide) (fun cc => ?_) (fun cc => ?_)
      · replace H := ite_n cc H
        refine g_iconst (T_X12_round 22 _ _ _ rfl) ⟨by decide, by decide⟩ ?_
        exact g_iret (T_X12_round 23 _ _ _ rfl) rfl (qi_of H)
      · replace H := ite_p cc H
        refine g_iload_n (T_X12_round 14 _ _ _ rfl) rfl ?_
        refine g_iload_n (T_X12_round 15 _ _ _ rfl) rfl ?_
        obtain ⟨y4, h3, hq, H⟩ := bd_some H
        refine g_callSi (M' := M_X12_has) (av := [.inl x2, .inl x1]) (st := []) (T_X12_round 16 _ _ _ rfl) ml_X12_139 cb_X12_has rfl (Nat.le_of_ble_eq_true rfl) (by omega) (R_X12_has N _ _ _ _ hq) ?_
        refine g_if_ne (tgt := 41) (T_X12_round 17 _ _ _ rfl) (by decide) (fun cc => ?_) (fun cc => ?_)
        · replace H := ite_n cc H
          refine g_iconst (T_X12_round 22 _ _ _ rfl) ⟨by decide, by decide⟩ ?_
          exact g_iret (T_X12_round 23 _ _ _ rfl) rfl (qi_of H)
        · replace H := ite_p cc H
          refine g_iload_n (T_X12_round 18 _ _ _ rfl) rfl ?_
          obtain ⟨y6, h5, hq, H⟩ := bd_some H
          refine g_callSi (M' := M_X12_bits) (av := [.inl x2]) (st := []) (T_X12_round 19 _ _ _ rfl) ml_X12_348 cb_X12_bits rfl (Nat.le_of_ble_eq_true rfl) (by omega) (R_X12_bits N _ _ _ hq) ?_
          refine g_bipush (T_X12_round 20 _ _ _ rfl) (by decide) ?_
          refine g_icmp_le (tgt := 43) (T_X12_round 21 _ _ _ rfl) (by decide) (fun cc => ?_) (fun cc => ?_)
          · replace H := ite_p cc H
            refine g_aload_n (T_X12_round 24 _ _ _ rfl) rfl ?_
            refine g_iload_n (T_X12_round 25 _ _ _ rfl) rfl ?_
            obtain ⟨y8, h7, hq, H⟩ := bd_some H
            refine g_callVi (M' := M_X12_laysWho) (c := 83) (av := [.inl x2]) (st := []) (T_X12_round 26 _ _ _ rfl) ml_X12_351 cb_X12_laysWho rfl rfl (Nat.le_of_ble_eq_true rfl) (by omega) (R_X12_laysWho N _ _ _ hq) ?_
            refine g_istore (T_X12_round 27 _ _ _ rfl) (by decide) ?_
            refine g_iload_n (T_X12_round 28 _ _ _ rfl) rfl ?_
            refine g_bipush (T_X12_round 29 _ _ _ rfl) (by decide) ?_
            refine g_icmp_eq (tgt := 70) (T_X12_round 30 _ _ _ rfl) (by decide) (fun cc => ?_) (fun cc => ?_)
            · replace H := ite_p cc H
              refine g_iconst (T_X12_round 40 _ _ _ rfl) ⟨by decide, by decide⟩ ?_
              refine g_istore (T_X12_round 41 _ _ _ rfl) (by decide) ?_
              refine g_weak [true, true, false, true, true, true, false, false] ?_
              refine R_L_X12_round_73 N   _ _ _ _ _ _ _ H
            · replace H := ite_n cc H
              refine g_iload_n (T_X12_round 31 _ _ _ rfl) rfl ?_
              refine g_iconst (T_X12_round 32 _ _ _ rfl) ⟨by decide, by decide⟩ ?_
              refine g_iload (T_X12_round 33 _ _ _ rfl) rfl ?_
              refine g_iconst (T_X12_round 34 _ _ _ rfl) ⟨by decide, by decide⟩ ?_
              refine g_isub (T_X12_round 35 _ _ _ rfl) ?_
              obtain ⟨y10, h9, hq, H⟩ := bd_some H
              refine g_callSi (M' := M_X12_in) (av := [.inl x3, .inl 0, .inl (w32 (y8 - 1))]) (st := []) (T_X12_round 36 _ _ _ rfl) ml_X12_155 cb_X12_in rfl (Nat.le_of_ble_eq_true rfl) (by omega) (R_X12_in N _ _ _ _ _ hq) ?_
              refine g_if_ne (tgt := 70) (T_X12_round 37 _ _ _ rfl) (by decide) (fun cc => ?_) (fun cc => ?_)
              · replace H := ite_n cc H
                refine g_iconst (T_X12_round 40 _ _ _ rfl) ⟨by decide, by decide⟩ ?_
                refine g_istore (T_X12_round 41 _ _ _ rfl) (by decide) ?_
                refine g_weak [true, true, false, true, true, true, false, false] ?_
                refine R_L_X12_round_73 N   _ _ _ _ _ _ _ H
              · replace H := ite_p cc H
                refine g_iconst (T_X12_round 38 _ _ _ rfl) ⟨by decide, by decide⟩ ?_
                exact g_iret (T_X12_round 39 _ _ _ rfl) rfl (qi_of H)
          · replace H := ite_n cc H
            refine g_iconst (T_X12_round 22 _ _ _ rfl) ⟨by decide, by decide⟩ ?_
            exact g_iret (T_X12_round 23 _ _ _ rfl) rfl (qi_of H)
def F_X12_max (N : Nat) (x0 : Int) (x1 : Int) (h : Hp) : Option (Int × Hp) :=
  if x0 ≤ x1 then
    some (x1, h)
  else
  some (x0, h)
set_option maxRecDepth 100000 in
set_option maxHeartbeats 4000000 in
theorem R_X12_max (N : Nat) (x0 : Int) (x1 : Int) (h : Hp) (res : Int × Hp) (H : F_X12_max N x0 x1 h = some res) : Runs M_X12_max 1 [.inl x0, .inl x1] h (Qi res) := by
  refine Runs.of rfl (Nat.le_of_ble_eq_true rfl) ?_
  show Go M_X12_max 1 0 [some (.inl x0), some (.inl x1)] [] h (Qi res)
  unfold F_X12_max at H
  refine g_iload_n (T_X12_max 0 _ _ _ rfl) rfl ?_
  refine g_iload_n (T_X12_max 1 _ _ _ rfl) rfl ?_
  refine g_icmp_le (tgt := 9) (T_X12_max 2 _ _ _ rfl) (by decide) (fun cc => ?_) (fun cc => ?_)
  · replace H := ite_p cc H
    refine g_iload_n (T_X12_max 5 _ _ _ rfl) rfl ?_
    exact g_iret (T_X12_max 6 _ _ _ rfl) rfl (qi_of H)
  · replace H := ite_n cc H
    refine g_iload_n (T_X12_max 3 _ _ _ rfl) rfl ?_
    refine g_goto (tgt := 10) (T_X12_max 4 _ _ _ rfl) (by decide) ?_
    exact g_iret (T_X12_max 6 _ _ _ rfl) rfl (qi_of H)
def L_X12_needFor_5 (N : Nat) : Nat → Int → Int → Int → Int → Hp → Option (Int × Hp)
  | 0, _, _, _, _, _ => none
  | n + 1, x1, x2, x3, x4, h =>
    if x1 ≤ x4 then
      some (x3, h)
    else
    grd (0 ≤ x4 ∧ x4 < 8) <|
    grd (0 ≤ (w32 (0 + (h 118 x4.toNat))) ∧ (w32 (0 + (h 118 x4.toNat))) < 17) <|
    bd (F_X12_max N 0 (w32 (x2 - (h 84 (w32 (0 + (h 118 x4.toNat))).toNat))) h) fun y2 h1 =>
    bnd ((w32 (x3 + y2))) fun y3 =>
    bnd (w32 (x4 + 1)) fun y4 =>
    (L_X12_needFor_5 N n) x1 x2 y3 y4 h1
set_option maxRecDepth 100000 in
set_option maxHeartbeats 4000000 in
theorem R_L_X12_needFor_5 (N : Nat) : ∀ (n : Nat) (x1 : Int) (x2 : Int) (x3 : Int) (x4 : Int) (h : Hp) (res : Int × Hp), L_X12_needFor_5 N n x1 x2 x3 x4 h = some res → Go M_X12_needFor 2 5 [some (.inr 84), some (.inl x1), some (.inl x2), some (.inl x3), some (.inl x4)] [] h (Qi res)
  | 0, _, _, _, _, _, _, H => by cases H
  | n + 1, x1, x2, x3, x4, h, res, H => by
    have ih := R_L_X12_needFor_5 N n
    simp only [L_X12_needFor_5] at H
    refine g_iload (T_X12_needFor 4 _ _ _ rfl) rfl ?_
    refine g_iload_n (T_X12_needFor 5 _ _ _ rfl) rfl ?_
    refine g_icmp_ge (tgt := 40) (T_X12_needFor 6 _ _ _ rfl) (by decide) (fun cc => ?_) (fun cc => ?_)
    · replace H := ite_p cc H
      refine g_iload_n (T_X12_needFor 25 _ _ _ rfl) rfl ?_
      exact g_iret (T_X12_needFor 26 _ _ _ rfl) rfl (qi_of H)
    · replace H := ite_n cc H
      refine g_iload_n (T_X12_needFor 7 _ _ _ rfl) rfl ?_
      refine g_iconst (T_X12_needFor 8 _ _ _ rfl) ⟨by decide, by decide⟩ ?_
      refine g_iload_n (T_X12_needFor 9 _ _ _ rfl) rfl ?_
      refine g_aload_n (T_X12_needFor 10 _ _ _ rfl) rfl ?_
      refine g_getR (c := 83) (r := 85) (T_X12_needFor 11 _ _ _ rfl) fl_X12_7 rfl (nR rfl) rfl (by decide) ?_
      refine g_iconst (T_X12_needFor 12 _ _ _ rfl) ⟨by decide, by decide⟩ ?_
      refine g_aload_n (T_X12_needFor 13 _ _ _ rfl) rfl ?_
      refine g_getR (c := 83) (r := 119) (T_X12_needFor 14 _ _ _ rfl) fl_X12_113 rfl (nR rfl) rfl (by decide) ?_
      refine g_iload (T_X12_needFor 15 _ _ _ rfl) rfl ?_
      obtain ⟨hg, H⟩ := grd_some H
      refine g_iald (c := 118) (T_X12_needFor 16 _ _ _ rfl) rfl hg ?_
      refine g_iadd (T_X12_needFor 17 _ _ _ rfl) ?_
      obtain ⟨hg, H⟩ := grd_some H
      refine g_iald (c := 84) (T_X12_needFor 18 _ _ _ rfl) rfl hg ?_
      refine g_isub (T_X12_needFor 19 _ _ _ rfl) ?_
      obtain ⟨y2, h1, hq, H⟩ := bd_some H
      refine g_callSi (M' := M_X12_max) (av := [.inl 0, .inl (w32 (x2 - (h 84 (w32 (0 + (h 118 x4.toNat))).toNat)))]) (st := [.inl x3]) (T_X12_needFor 20 _ _ _ rfl) ml_X12_363 cb_X12_max rfl (Nat.le_of_ble_eq_true rfl) (by omega) (R_X12_max N _ _ _ _ hq) ?_
      refine g_iadd (T_X12_needFor 21 _ _ _ rfl) ?_
      refine g_bndI H fun y3 H => ?_
      refine g_istore_n (T_X12_needFor 22 _ _ _ rfl) (by decide) ?_
      refine g_iincB (T_X12_needFor 23 _ _ _ rfl) rfl (by decide) H fun y4 H => ?_
      refine g_goto (tgt := 5) (T_X12_needFor 24 _ _ _ rfl) (by decide) ?_
      refine g_weak [true, true, true, true, true] ?_
      exact ih _ _ _ _ _ _ H
def F_X12_needFor (N : Nat) (x1 : Int) (x2 : Int) (h : Hp) : Option (Int × Hp) :=
  L_X12_needFor_5 N  N x1 x2 0 0 h
set_option maxRecDepth 100000 in
set_option maxHeartbeats 4000000 in
theorem R_X12_needFor (N : Nat) (x1 : Int) (x2 : Int) (h : Hp) (res : Int × Hp) (H : F_X12_needFor N x1 x2 h = some res) : Runs M_X12_needFor 2 [.inr 84, .inl x1, .inl x2] h (Qi res) := by
  refine Runs.of rfl (Nat.le_of_ble_eq_true rfl) ?_
  show Go M_X12_needFor 2 0 [some (.inr 84), some (.inl x1), some (.inl x2), none, none] [] h (Qi res)
  unfold F_X12_needFor at H
  refine g_iconst (T_X12_needFor 0 _ _ _ rfl) ⟨by decide, by decide⟩ ?_
  refine g_istore_n (T_X12_needFor 1 _ _ _ rfl) (by decide) ?_
  refine g_iconst (T_X12_needFor 2 _ _ _ rfl) ⟨by decide, by decide⟩ ?_
  refine g_istore (T_X12_needFor 3 _ _ _ rfl) (by decide) ?_
  refine g_weak [true, true, true, true, true] ?_
  refine R_L_X12_needFor_5 N   _ _ _ _ _ _ _ H
def L_X12_share_171 (N : Nat) : Nat → Int → Int → Int → Int → Int → Int → Hp → Option (Int × Hp)
  | 0, _, _, _, _, _, _, _ => none
  | n + 1, x3, x4, x5, x6, x7, x8, h =>
    if x4 ≤ x8 then
      some ((-1), h)
    else
    grd (0 ≤ x8 ∧ x8 < 8) <|
    grd (0 ≤ (w32 (0 + (h 118 x8.toNat))) ∧ (w32 (0 + (h 118 x8.toNat))) < 17) <|
    bnd ((w32 ((w32 (x5 - 999)) + (h 84 (w32 (0 + (h 118 x8.toNat))).toNat)))) fun y1 =>
    grd (0 ≤ x8 ∧ x8 < 8) <|
    grd (0 ≤ (w32 (0 + (h 118 x8.toNat))) ∧ (w32 (0 + (h 118 x8.toNat))) < 17) <|
    bd (F_X12_max N 0 (w32 (x6 - (h 84 (w32 (0 + (h 118 x8.toNat))).toNat))) h) fun y3 h2 =>
    bd (F_X12_max N y3 (w32 (x7 - y1)) h2) fun y5 h4 =>
    grd (0 ≤ x8 ∧ x8 < 8) <|
    if (h4 118 x8.toNat) = x3 then
      some (y5, h4)
    else
    bnd ((w32 (x7 - y5))) fun y6 =>
    bnd (w32 (x8 + 1)) fun y7 =>
    (L_X12_share_171 N n) x3 x4 y1 x6 y6 y7 h4
set_option maxRecDepth 100000 in
set_option maxHeartbeats 4000000 in
theorem R_L_X12_share_171 (N : Nat) : ∀ (n : Nat) (x3 : Int) (x4 : Int) (x5 : Int) (x6 : Int) (x7 : Int) (x8 : Int) (h : Hp) (res : Int × Hp), L_X12_share_171 N n x3 x4 x5 x6 x7 x8 h = some res → Go M_X12_share 3 171 [some (.inr 84), none, none, some (.inl x3), some (.inl x4), some (.inl x5), some (.inl x6), some (.inl x7), some (.inl x8), none] [] h (Qi res)
  | 0, _, _, _, _, _, _, _, _, H => by cases H
  | n + 1, x3, x4, x5, x6, x7, x8, h, res, H => by
    have ih := R_L_X12_share_171 N n
    simp only [L_X12_share_171] at H
    refine g_iload (T_X12_share 94 _ _ _ rfl) rfl ?_
    refine g_iload (T_X12_share 95 _ _ _ rfl) rfl ?_
    refine g_icmp_ge (tgt := 259) (T_X12_share 96 _ _ _ rfl) (by decide) (fun cc => ?_) (fun cc => ?_)
    · replace H := ite_p cc H
      refine g_iconst (T_X12_share 143 _ _ _ rfl) ⟨by decide, by decide⟩ ?_
      exact g_iret (T_X12_share 144 _ _ _ rfl) rfl (qi_of H)
    · replace H := ite_n cc H
      refine g_iload (T_X12_share 97 _ _ _ rfl) rfl ?_
      refine g_sipush (T_X12_share 98 _ _ _ rfl) (by decide) ?_
      refine g_isub (T_X12_share 99 _ _ _ rfl) ?_
      refine g_aload_n (T_X12_share 100 _ _ _ rfl) rfl ?_
      refine g_getR (c := 83) (r := 85) (T_X12_share 101 _ _ _ rfl) fl_X12_7 rfl (nR rfl) rfl (by decide) ?_
      refine g_iconst (T_X12_share 102 _ _ _ rfl) ⟨by decide, by decide⟩ ?_
      refine g_aload_n (T_X12_share 103 _ _ _ rfl) rfl ?_
      refine g_getR (c := 83) (r := 119) (T_X12_share 104 _ _ _ rfl) fl_X12_113 rfl (nR rfl) rfl (by decide) ?_
      refine g_iload (T_X12_share 105 _ _ _ rfl) rfl ?_
      obtain ⟨hg, H⟩ := grd_some H
      refine g_iald (c := 118) (T_X12_share 106 _ _ _ rfl) rfl hg ?_
      refine g_iadd (T_X12_share 107 _ _ _ rfl) ?_
      obtain ⟨hg, H⟩ := grd_some H
      refine g_iald (c := 84) (T_X12_share 108 _ _ _ rfl) rfl hg ?_
      refine g_iadd (T_X12_share 109 _ _ _ rfl) ?_
      refine g_bndI H fun y1 H => ?_
      refine g_istore (T_X12_share 110 _ _ _ rfl) (by decide) ?_
      refine g_iconst (T_X12_share 111 _ _ _ rfl) ⟨by decide, by decide⟩ ?_
      refine g_iload (T_X12_share 112 _ _ _ rfl) rfl ?_
      refine g_aload_n (T_X12_share 113 _ _ _ rfl) rfl ?_
      refine g_getR (c := 83) (r := 85) (T_X12_share 114 _ _ _ rfl) fl_X12_7 rfl (nR rfl) rfl (by decide) ?_
      refine g_iconst (T_X12_share 115 _ _ _ rfl) ⟨by decide, by decide⟩ ?_
      refine g_aload_n (T_X12_share 116 _ _ _ rfl) rfl ?_
      refine g_getR (c := 83) (r := 119) (T_X12_share 117 _ _ _ rfl) fl_X12_113 rfl (nR rfl) rfl (by decide) ?_
      refine g_iload (T_X12_share 118 _ _ _ rfl) rfl ?_
      obtain ⟨hg, H⟩ := grd_some H
      refine g_iald (c := 118) (T_X12_share 119 _ _ _ rfl) rfl hg ?_
      refine g_iadd (T_X12_share 120 _ _ _ rfl) ?_
      obtain ⟨hg, H⟩ := grd_some H
      refine g_iald (c := 84) (T_X12_share 121 _ _ _ rfl) rfl hg ?_
      refine g_isub (T_X12_share 122 _ _ _ rfl) ?_
      obtain ⟨y3, h2, hq, H⟩ := bd_some H
      refine g_callSi (M' := M_X12_max) (av := [.inl 0, .inl (w32 (x6 - (h 84 (w32 (0 + (h 118 x8.toNat))).toNat)))]) (st := []) (T_X12_share 123 _ _ _ rfl) ml_X12_363 cb_X12_max rfl (Nat.le_of_ble_eq_true rfl) (by omega) (R_X12_max N _ _ _ _ hq) ?_
      refine g_iload (T_X12_share 124 _ _ _ rfl) rfl ?_
      refine g_iload (T_X12_share 125 _ _ _ rfl) rfl ?_
      refine g_isub (T_X12_share 126 _ _ _ rfl) ?_
      obtain ⟨y5, h4, hq, H⟩ := bd_some H
      refine g_callSi (M' := M_X12_max) (av := [.inl y3, .inl (w32 (x7 - y1))]) (st := []) (T_X12_share 127 _ _ _ rfl) ml_X12_363 cb_X12_max rfl (Nat.le_of_ble_eq_true rfl) (by omega) (R_X12_max N _ _ _ _ hq) ?_
      refine g_istore (T_X12_share 128 _ _ _ rfl) (by decide) ?_
      refine g_aload_n (T_X12_share 129 _ _ _ rfl) rfl ?_
      refine g_getR (c := 83) (r := 119) (T_X12_share 130 _ _ _ rfl) fl_X12_113 rfl (nR rfl) rfl (by decide) ?_
      refine g_iload (T_X12_share 131 _ _ _ rfl) rfl ?_
      obtain ⟨hg, H⟩ := grd_some H
      refine g_iald (c := 118) (T_X12_share 132 _ _ _ rfl) rfl hg ?_
      refine g_iload_n (T_X12_share 133 _ _ _ rfl) rfl ?_
      refine g_icmp_ne (tgt := 246) (T_X12_share 134 _ _ _ rfl) (by decide) (fun cc => ?_) (fun cc => ?_)
      · replace H := ite_n cc H
        refine g_iload (T_X12_share 137 _ _ _ rfl) rfl ?_
        refine g_iload (T_X12_share 138 _ _ _ rfl) rfl ?_
        refine g_isub (T_X12_share 139 _ _ _ rfl) ?_
        refine g_bndI H fun y6 H => ?_
        refine g_istore (T_X12_share 140 _ _ _ rfl) (by decide) ?_
        refine g_iincB (T_X12_share 141 _ _ _ rfl) rfl (by decide) H fun y7 H => ?_
        refine g_goto (tgt := 171) (T_X12_share 142 _ _ _ rfl) (by decide) ?_
        refine g_weak [true, false, false, true, true, true, true, true, true, false] ?_
        exact ih _ _ _ _ _ _ _ _ H
      · replace H := ite_p cc H
        refine g_iload (T_X12_share 135 _ _ _ rfl) rfl ?_
        exact g_iret (T_X12_share 136 _ _ _ rfl) rfl (qi_of H)
def J_X12_share_156 (N : Nat) (x1 : Int) (x3 : Int) (x4 : Int) (x5 : Int) (x6 : Int) (h : Hp) : Option (Int × Hp) :=
  if x3 = 20 then
    some (x6, h)
  else
  L_X12_share_171 N  N x3 x4 x5 x6 x1 0 h
set_option maxRecDepth 100000 in
set_option maxHeartbeats 4000000 in
theorem R_J_X12_share_156 (N : Nat) (x1 : Int) (x3 : Int) (x4 : Int) (x5 : Int) (x6 : Int) (h : Hp) (res : Int × Hp) (H : J_X12_share_156 N x1 x3 x4 x5 x6 h = some res) : Go M_X12_share 3 156 [some (.inr 84), some (.inl x1), none, some (.inl x3), some (.inl x4), some (.inl x5), some (.inl x6), none, none, none] [] h (Qi res) := by
  unfold J_X12_share_156 at H
  refine g_iload_n (T_X12_share 85 _ _ _ rfl) rfl ?_
  refine g_bipush (T_X12_share 86 _ _ _ rfl) (by decide) ?_
  refine g_icmp_ne (tgt := 165) (T_X12_share 87 _ _ _ rfl) (by decide) (fun cc => ?_) (fun cc => ?_)
  · replace H := ite_n cc H
    refine g_iload_n (T_X12_share 90 _ _ _ rfl) rfl ?_
    refine g_istore (T_X12_share 91 _ _ _ rfl) (by decide) ?_
    refine g_iconst (T_X12_share 92 _ _ _ rfl) ⟨by decide, by decide⟩ ?_
    refine g_istore (T_X12_share 93 _ _ _ rfl) (by decide) ?_
    refine g_weak [true, false, false, true, true, true, true, true, true, false] ?_
    refine R_L_X12_share_171 N   _ _ _ _ _ _ _ _ _ H
  · replace H := ite_p cc H
    refine g_iload (T_X12_share 88 _ _ _ rfl) rfl ?_
    exact g_iret (T_X12_share 89 _ _ _ rfl) rfl (qi_of H)
def L_X12_share_125 (N : Nat) : Nat → Int → Int → Int → Int → Int → Hp → Option (Int × Hp)
  | 0, _, _, _, _, _, _ => none
  | n + 1, x1, x3, x4, x5, x6, h =>
    if 999 ≤ x6 then
      J_X12_share_156 N  x1 x3 x4 x5 x6 h
    else
    bd (F_X12_needFor N x4 (w32 (x6 + 1)) h) fun y2 h1 =>
    if x1 < y2 then
      J_X12_share_156 N  x1 x3 x4 x5 x6 h1
    else
    bnd ((w32 (x6 + 1))) fun y3 =>
    (L_X12_share_125 N n) x1 x3 x4 x5 y3 h1
set_option maxRecDepth 100000 in
set_option maxHeartbeats 4000000 in
theorem R_L_X12_share_125 (N : Nat) : ∀ (n : Nat) (x1 : Int) (x3 : Int) (x4 : Int) (x5 : Int) (x6 : Int) (h : Hp) (res : Int × Hp), L_X12_share_125 N n x1 x3 x4 x5 x6 h = some res → Go M_X12_share 3 125 [some (.inr 84), some (.inl x1), none, some (.inl x3), some (.inl x4), some (.inl x5), some (.inl x6), none, none, none] [] h (Qi res)
  | 0, _, _, _, _, _, _, _, H => by cases H
  | n + 1, x1, x3, x4, x5, x6, h, res, H => by
    have ih := R_L_X12_share_125 N n
    simp only [L_X12_share_125] at H
    refine g_iload (T_X12_share 69 _ _ _ rfl) rfl ?_
    refine g_sipush (T_X12_share 70 _ _ _ rfl) (by decide) ?_
    refine g_icmp_ge (tgt := 156) (T_X12_share 71 _ _ _ rfl) (by decide) (fun cc => ?_) (fun cc => ?_)
    · replace H := ite_p cc H
      refine g_weak [true, true, false, true, true, true, true, false, false, false] ?_
      exact R_J_X12_share_156 N   _ _ _ _ _ _ _ H
    · replace H := ite_n cc H
      refine g_aload_n (T_X12_share 72 _ _ _ rfl) rfl ?_
      refine g_iload (T_X12_share 73 _ _ _ rfl) rfl ?_
      refine g_iload (T_X12_share 74 _ _ _ rfl) rfl ?_
      refine g_iconst (T_X12_share 75 _ _ _ rfl) ⟨by decide, by decide⟩ ?_
      refine g_iadd (T_X12_share 76 _ _ _ rfl) ?_
      obtain ⟨y2, h1, hq, H⟩ := bd_some H
      refine g_callVi (M' := M_X12_needFor) (c := 83) (av := [.inl x4, .inl (w32 (x6 + 1))]) (st := []) (T_X12_share 77 _ _ _ rfl) ml_X12_366 cb_X12_needFor rfl rfl (Nat.le_of_ble_eq_true rfl) (by omega) (R_X12_needFor N _ _ _ _ hq) ?_
      refine g_iload_n (T_X12_share 78 _ _ _ rfl) rfl ?_
      refine g_icmp_gt (tgt := 156) (T_X12_share 79 _ _ _ rfl) (by decide) (fun cc => ?_) (fun cc => ?_)
      · replace H := ite_p cc H
        refine g_weak [true, true, false, true, true, true, true, false, false, false] ?_
        exact R_J_X12_share_156 N   _ _ _ _ _ _ _ H
      · replace H := ite_n cc H
        refine g_iload (T_X12_share 80 _ _ _ rfl) rfl ?_
        refine g_iconst (T_X12_share 81 _ _ _ rfl) ⟨by decide, by decide⟩ ?_
        refine g_iadd (T_X12_share 82 _ _ _ rfl) ?_
        refine g_bndI H fun y3 H => ?_
        refine g_istore (T_X12_share 83 _ _ _ rfl) (by decide) ?_
        refine g_goto (tgt := 125) (T_X12_share 84 _ _ _ rfl) (by decide) ?_
        refine g_weak [true, true, false, true, true, true, true, false, false, false] ?_
        exact ih _ _ _ _ _ _ _ H
def L_X12_share_77 (N : Nat) : Nat → Int → Int → Int → Int → Int → Hp → Option (Int × Hp)
  | 0, _, _, _, _, _, _ => none
  | n + 1, x1, x3, x4, x5, x6, h =>
    if x4 ≤ x6 then
      if x1 ≤ x5 then
        L_X12_share_125 N  N x1 x3 x4 x5 0 h
      else
      some ((-2), h)
    else
    grd (0 ≤ x6 ∧ x6 < 8) <|
    grd (0 ≤ (w32 (0 + (h 118 x6.toNat))) ∧ (w32 (0 + (h 118 x6.toNat))) < 17) <|
    bnd ((w32 ((w32 (x5 + 999)) - (h 84 (w32 (0 + (h 118 x6.toNat))).toNat)))) fun y1 =>
    bnd (w32 (x6 + 1)) fun y2 =>
    (L_X12_share_77 N n) x1 x3 x4 y1 y2 h
set_option maxRecDepth 100000 in
set_option maxHeartbeats 4000000 in
theorem R_L_X12_share_77 (N : Nat) : ∀ (n : Nat) (x1 : Int) (x3 : Int) (x4 : Int) (x5 : Int) (x6 : Int) (h : Hp) (res : Int × Hp), L_X12_share_77 N n x1 x3 x4 x5 x6 h = some res → Go M_X12_share 3 77 [some (.inr 84), some (.inl x1), none, some (.inl x3), some (.inl x4), some (.inl x5), some (.inl x6), none, none, none] [] h (Qi res)
  | 0, _, _, _, _, _, _, _, H => by cases H
  | n + 1, x1, x3, x4, x5, x6, h, res, H => by
    have ih := R_L_X12_share_77 N n
    simp only [L_X12_share_77] at H
    refine g_iload (T_X12_share 43 _ _ _ rfl) rfl ?_
    refine g_iload (T_X12_share 44 _ _ _ rfl) rfl ?_
    refine g_icmp_ge (tgt := 113) (T_X12_share 45 _ _ _ rfl) (by decide) (fun cc => ?_) (fun cc => ?_)
    · replace H := ite_p cc H
      refine g_iload (T_X12_share 62 _ _ _ rfl) rfl ?_
      refine g_iload_n (T_X12_share 63 _ _ _ rfl) rfl ?_
      refine g_icmp_ge (tgt := 122) (T_X12_share 64 _ _ _ rfl) (by decide) (fun cc => ?_) (fun cc => ?_)
      · replace H := ite_p cc H
        refine g_iconst (T_X12_share 67 _ _ _ rfl) ⟨by decide, by decide⟩ ?_
        refine g_istore (T_X12_share 68 _ _ _ rfl) (by decide) ?_
        refine g_weak [true, true, false, true, true, true, true, false, false, false] ?_
        refine R_L_X12_share_125 N   _ _ _ _ _ _ _ _ H
      · replace H := ite_n cc H
        refine g_bipush (T_X12_share 65 _ _ _ rfl) (by decide) ?_
        exact g_iret (T_X12_share 66 _ _ _ rfl) rfl (qi_of H)
    · replace H := ite_n cc H
      refine g_iload (T_X12_share 46 _ _ _ rfl) rfl ?_
      refine g_sipush (T_X12_share 47 _ _ _ rfl) (by decide) ?_
      refine g_iadd (T_X12_share 48 _ _ _ rfl) ?_
      refine g_aload_n (T_X12_share 49 _ _ _ rfl) rfl ?_
      refine g_getR (c := 83) (r := 85) (T_X12_share 50 _ _ _ rfl) fl_X12_7 rfl (nR rfl) rfl (by decide) ?_
      refine g_iconst (T_X12_share 51 _ _ _ rfl) ⟨by decide, by decide⟩ ?_
      refine g_aload_n (T_X12_share 52 _ _ _ rfl) rfl ?_
      refine g_getR (c := 83) (r := 119) (T_X12_share 53 _ _ _ rfl) fl_X12_113 rfl (nR rfl) rfl (by decide) ?_
      refine g_iload (T_X12_share 54 _ _ _ rfl) rfl ?_
      obtain ⟨hg, H⟩ := grd_some H
      refine g_iald (c := 118) (T_X12_share 55 _ _ _ rfl) rfl hg ?_
      refine g_iadd (T_X12_share 56 _ _ _ rfl) ?_
      obtain ⟨hg, H⟩ := grd_some H
      refine g_iald (c := 84) (T_X12_share 57 _ _ _ rfl) rfl hg ?_
      refine g_isub (T_X12_share 58 _ _ _ rfl) ?_
      refine g_bndI H fun y1 H => ?_
      refine g_istore (T_X12_share 59 _ _ _ rfl) (by decide) ?_
      refine g_iincB (T_X12_share 60 _ _ _ rfl) rfl (by decide) H fun y2 H => ?_
      refine g_goto (tgt := 77) (T_X12_share 61 _ _ _ rfl) (by decide) ?_
      refine g_weak [true, true, false, true, true, true, true, false, false, false] ?_
      exact ih _ _ _ _ _ _ _ H
def J_X12_share_64 (N : Nat) (x1 : Int) (x2 : Int) (x3 : Int) (h : Hp) : Option (Int × Hp) :=
  bd (F_X12_laysWho N x2 h) fun y2 h1 =>
  L_X12_share_77 N  N x1 x3 y2 0 0 h1
set_option maxRecDepth 100000 in
set_option maxHeartbeats 4000000 in
theorem R_J_X12_share_64 (N : Nat) (x1 : Int) (x2 : Int) (x3 : Int) (h : Hp) (res : Int × Hp) (H : J_X12_share_64 N x1 x2 x3 h = some res) : Go M_X12_share 3 64 [some (.inr 84), some (.inl x1), some (.inl x2), some (.inl x3), none, none, none, none, none, none] [] h (Qi res) := by
  unfold J_X12_share_64 at H
  refine g_aload_n (T_X12_share 35 _ _ _ rfl) rfl ?_
  refine g_iload_n (T_X12_share 36 _ _ _ rfl) rfl ?_
  obtain ⟨y2, h1, hq, H⟩ := bd_some H
  refine g_callVi (M' := M_X12_laysWho) (c := 83) (av := [.inl x2]) (st := []) (T_X12_share 37 _ _ _ rfl) ml_X12_351 cb_X12_laysWho rfl rfl (Nat.le_of_ble_eq_true rfl) (by omega) (R_X12_laysWho N _ _ _ hq) ?_
  refine g_istore (T_X12_share 38 _ _ _ rfl) (by decide) ?_
  refine g_iconst (T_X12_share 39 _ _ _ rfl) ⟨by decide, by decide⟩ ?_
  refine g_istore (T_X12_share 40 _ _ _ rfl) (by decide) ?_
  refine g_iconst (T_X12_share 41 _ _ _ rfl) ⟨by decide, by decide⟩ ?_
  refine g_istore (T_X12_share 42 _ _ _ rfl) (by decide) ?_
  refine g_weak [true, true, false, true, true, true, true, false, false, false] ?_
  refine R_L_X12_share_77 N   _ _ _ _ _ _ _ _ H
def F_X12_share (N : Nat) (x1 : Int) (x2 : Int) (x3 : Int) (h : Hp) : Option (Int × Hp) :=
  bd (F_X12_in N x1 0 600 h) fun y2 h1 =>
  if y2 = 0 then
    some ((-1), h1)
  else
  if x2 < 1 then
    some ((-1), h1)
  else
  if (iand x2 (ixor (h1 83 12) (-1))) = 0 then
    bd (F_X12_bits N x2 h1) fun y4 h3 =>
    if y4 ≤ 6 then
      if x3 = 20 then
        J_X12_share_64 N  x1 x2 x3 h3
      else
      bd (F_X12_in N x3 0 13 h3) fun y6 h5 =>
      if y6 = 0 then
        some ((-1), h5)
      else
      bd (F_X12_has N x2 x3 h5) fun y8 h7 =>
      if y8 = 0 then
        some ((-1), h7)
      else
      J_X12_share_64 N  x1 x2 x3 h7
    else
    some ((-1), h3)
  else
  some ((-1), h1)
set_option maxRecDepth 100000 in
set_option maxHeartbeats 4000000 in
theorem R_X12_share (N : Nat) (x1 : Int) (x2 : Int) (x3 : Int) (h : Hp) (res : Int × Hp) (H : F_X12_share N x1 x2 x3 h = some res) : Runs M_X12_share 3 [.inr 84, .inl x1, .inl x2, .inl x3] h (Qi res) := by
  refine Runs.of rfl (Nat.le_of_ble_eq_true rfl) ?_
  show Go M_X12_share 3 0 [some (.inr 84), some (.inl x1), some (.inl x2), some (.inl x3), none, none, none, none, none, none] [] h (Qi res)
  unfold F_X12_share at H
  refine g_iload_n (T_X12_share 0 _ _ _ rfl) rfl ?_
  refine g_iconst (T_X12_share 1 _ _ _ rfl) ⟨by decide, by decide⟩ ?_
  refine g_sipush (T_X12_share 2 _ _ _ rfl) (by decide) ?_
  obtain ⟨y2, h1, hq, H⟩ := bd_some H
  refine g_callSi (M' := M_X12_in) (av := [.inl x1, .inl 0, .inl 600]) (st := []) (T_X12_share 3 _ _ _ rfl) ml_X12_155 cb_X12_in rfl (Nat.le_of_ble_eq_true rfl) (by omega) (R_X12_in N _ _ _ _ _ hq) ?_
  refine g_if_eq (tgt := 36) (T_X12_share 4 _ _ _ rfl) (by decide) (fun cc => ?_) (fun cc => ?_)
  · replace H := ite_p cc H
    refine g_iconst (T_X12_share 19 _ _ _ rfl) ⟨by decide, by decide⟩ ?_
    exact g_iret (T_X12_share 20 _ _ _ rfl) rfl (qi_of H)
  · replace H := ite_n cc H
    refine g_iload_n (T_X12_share 5 _ _ _ rfl) rfl ?_
    refine g_iconst (T_X12_share 6 _ _ _ rfl) ⟨by decide, by decide⟩ ?_
    refine g_icmp_lt (tgt := 36) (T_X12_share 7 _ _ _ rfl) (by decide) (fun cc => ?_) (fun cc => ?_)
    · replace H := ite_p cc H
      refine g_iconst (T_X12_share 19 _ _ _ rfl) ⟨by decide, by decide⟩ ?_
      exact g_iret (T_X12_share 20 _ _ _ rfl) rfl (qi_of H)
    · replace H := ite_n cc H
      refine g_iload_n (T_X12_share 8 _ _ _ rfl) rfl ?_
      refine g_aload_n (T_X12_share 9 _ _ _ rfl) rfl ?_
      refine g_getI (c := 83) (T_X12_share 10 _ _ _ rfl) fl_X12_135 rfl (Or.inl rfl) ?_
      refine g_iconst (T_X12_share 11 _ _ _ rfl) ⟨by decide, by decide⟩ ?_
      refine g_ixor (T_X12_share 12 _ _ _ rfl) ?_
      refine g_iand (T_X12_share 13 _ _ _ rfl) ?_
      refine g_if_ne (tgt := 36) (T_X12_share 14 _ _ _ rfl) (by decide) (fun cc => ?_) (fun cc => ?_)
      · replace H := ite_n cc H
        refine g_iconst (T_X12_share 19 _ _ _ rfl) ⟨by decide, by decide⟩ ?_
        exact g_iret (T_X12_share 20 _ _ _ rfl) rfl (qi_of H)
      · replace H := ite_p cc H
        refine g_iload_n (T_X12_share 15 _ _ _ rfl) rfl ?_
        obtain ⟨y4, h3, hq, H⟩ := bd_some H
        refine g_callSi (M' := M_X12_bits) (av := [.inl x2]) (st := []) (T_X12_share 16 _ _ _ rfl) ml_X12_348 cb_X12_bits rfl (Nat.le_of_ble_eq_true rfl) (by omega) (R_X12_bits N _ _ _ hq) ?_
        refine g_bipush (T_X12_share 17 _ _ _ rfl) (by decide) ?_
        refine g_icmp_le (tgt := 38) (T_X12_share 18 _ _ _ rfl) (by decide) (fun cc => ?_) (fun cc => ?_)
        · replace H := ite_p cc H
          refine g_iload_n (T_X12_share 21 _ _ _ rfl) rfl ?_
          refine g_bipush (T_X12_share 22 _ _ _ rfl) (by decide) ?_
          refine g_icmp_eq (tgt := 64) (T_X12_share 23 _ _ _ rfl) (by decide) (fun cc => ?_) (fun cc => ?_)
          · replace H := ite_p cc H
            refine g_weak [true, true, true, true, false, false, false, false, false, false] ?_
            exact R_J_X12_share_64 N   _ _ _ _ _ H
          · replace H := ite_n cc H
            refine g_iload_n (T_X12_share 24 _ _ _ rfl) rfl ?_
            refine g_iconst (T_X12_share 25 _ _ _ rfl) ⟨by decide, by decide⟩ ?_
            refine g_bipush (T_X12_share 26 _ _ _ rfl) (by decide) ?_
            obtain ⟨y6, h5, hq, H⟩ := bd_some H
            refine g_callSi (M' := M_X12_in) (av := [.inl x3, .inl 0, .inl 13]) (st := []) (T_X12_share 27 _ _ _ rfl) ml_X12_155 cb_X12_in rfl (Nat.le_of_ble_eq_true rfl) (by omega) (R_X12_in N _ _ _ _ _ hq) ?_
            refine g_if_eq (tgt := 62) (T_X12_share 28 _ _ _ rfl) (by decide) (fun cc => ?_) (fun cc => ?_)
            · replace H := ite_p cc H
              refine g_iconst (T_X12_share 33 _ _ _ rfl) ⟨by decide, by decide⟩ ?_
              exact g_iret (T_X12_share 34 _ _ _ rfl) rfl (qi_of H)
            · replace H := ite_n cc H
              refine g_iload_n (T_X12_share 29 _ _ _ rfl) rfl ?_
              refine g_iload_n (T_X12_share 30 _ _ _ rfl) rfl ?_
              obtain ⟨y8, h7, hq, H⟩ := bd_some H
              refine g_callSi (M' := M_X12_has) (av := [.inl x2, .inl x3]) (st := []) (T_X12_share 31 _ _ _ rfl) ml_X12_139 cb_X12_has rfl (Nat.le_of_ble_eq_true rfl) (by omega) (R_X12_has N _ _ _ _ hq) ?_
              refine g_if_ne (tgt := 64) (T_X12_share 32 _ _ _ rfl) (by decide) (fun cc => ?_) (fun cc => ?_)
              · replace H := ite_n cc H
                refine g_weak [true, true, true, true, false, false, false, false, false, false] ?_
                exact R_J_X12_share_64 N   _ _ _ _ _ H
              · replace H := ite_p cc H
                refine g_iconst (T_X12_share 33 _ _ _ rfl) ⟨by decide, by decide⟩ ?_
                exact g_iret (T_X12_share 34 _ _ _ rfl) rfl (qi_of H)
        · replace H := ite_n cc H
          refine g_iconst (T_X12_share 19 _ _ _ rfl) ⟨by decide, by decide⟩ ?_
          exact g_iret (T_X12_share 20 _ _ _ rfl) rfl (qi_of H)
