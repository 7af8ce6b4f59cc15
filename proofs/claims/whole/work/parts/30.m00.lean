/-! by program: the methods as functions, and the walks that show it -/
def F_X12_in (N : Nat) (x0 : Int) (x1 : Int) (x2 : Int) (h : Hp) : Option (Int × Hp) :=
  if x0 < x1 then
    some (0, h)
  else
  if x2 < x0 then
    some (0, h)
  else
  some (1, h)
set_option maxRecDepth 100000 in
set_option maxHeartbeats 4000000 in
theorem R_X12_in (N : Nat) (x0 : Int) (x1 : Int) (x2 : Int) (h : Hp) (res : Int × Hp) (H : F_X12_in N x0 x1 x2 h = some res) : Runs M_X12_in 1 [.inl x0, .inl x1, .inl x2] h (Qi res) := by
  refine Runs.of rfl (Nat.le_of_ble_eq_true rfl) ?_
  show Go M_X12_in 1 0 [some (.inl x0), some (.inl x1), some (.inl x2)] [] h (Qi res)
  unfold F_X12_in at H
  refine g_iload_n (T_X12_in 0 _ _ _ rfl) rfl ?_
  refine g_iload_n (T_X12_in 1 _ _ _ rfl) rfl ?_
  refine g_icmp_lt (tgt := 14) (T_X12_in 2 _ _ _ rfl) (by decide) (fun cc => ?_) (fun cc => ?_)
  · replace H := ite_p cc H
    refine g_iconst (T_X12_in 8 _ _ _ rfl) ⟨by decide, by decide⟩ ?_
    exact g_zret (T_X12_in 9 _ _ _ rfl) rfl (by decide) (qi_of H)
  · replace H := ite_n cc H
    refine g_iload_n (T_X12_in 3 _ _ _ rfl) rfl ?_
    refine g_iload_n (T_X12_in 4 _ _ _ rfl) rfl ?_
    refine g_icmp_gt (tgt := 14) (T_X12_in 5 _ _ _ rfl) (by decide) (fun cc => ?_) (fun cc => ?_)
    · replace H := ite_p cc H
      refine g_iconst (T_X12_in 8 _ _ _ rfl) ⟨by decide, by decide⟩ ?_
      exact g_zret (T_X12_in 9 _ _ _ rfl) rfl (by decide) (qi_of H)
    · replace H := ite_n cc H
      refine g_iconst (T_X12_in 6 _ _ _ rfl) ⟨by decide, by decide⟩ ?_
      refine g_goto (tgt := 15) (T_X12_in 7 _ _ _ rfl) (by decide) ?_
      exact g_zret (T_X12_in 9 _ _ _ rfl) rfl (by decide) (qi_of H)
def F_X12_min (N : Nat) (x0 : Int) (x1 : Int) (h : Hp) : Option (Int × Hp) :=
  if x1 ≤ x0 then
    some (x1, h)
  else
  some (x0, h)
set_option maxRecDepth 100000 in
set_option maxHeartbeats 4000000 in
theorem R_X12_min (N : Nat) (x0 : Int) (x1 : Int) (h : Hp) (res : Int × Hp) (H : F_X12_min N x0 x1 h = some res) : Runs M_X12_min 1 [.inl x0, .inl x1] h (Qi res) := by
  refine Runs.of rfl (Nat.le_of_ble_eq_true rfl) ?_
  show Go M_X12_min 1 0 [some (.inl x0), some (.inl x1)] [] h (Qi res)
  unfold F_X12_min at H
  refine g_iload_n (T_X12_min 0 _ _ _ rfl) rfl ?_
  refine g_iload_n (T_X12_min 1 _ _ _ rfl) rfl ?_
  refine g_icmp_ge (tgt := 9) (T_X12_min 2 _ _ _ rfl) (by decide) (fun cc => ?_) (fun cc => ?_)
  · replace H := ite_p cc H
    refine g_iload_n (T_X12_min 5 _ _ _ rfl) rfl ?_
    exact g_iret (T_X12_min 6 _ _ _ rfl) rfl (qi_of H)
  · replace H := ite_n cc H
    refine g_iload_n (T_X12_min 3 _ _ _ rfl) rfl ?_
    refine g_goto (tgt := 10) (T_X12_min 4 _ _ _ rfl) (by decide) ?_
    exact g_iret (T_X12_min 6 _ _ _ rfl) rfl (qi_of H)
def F_X12_has (N : Nat) (x0 : Int) (x1 : Int) (h : Hp) : Option (Int × Hp) :=
  if (iand (ishr x0 x1) 1) = 1 then
    some (1, h)
  else
  some (0, h)
set_option maxRecDepth 100000 in
set_option maxHeartbeats 4000000 in
theorem R_X12_has (N : Nat) (x0 : Int) (x1 : Int) (h : Hp) (res : Int × Hp) (H : F_X12_has N x0 x1 h = some res) : Runs M_X12_has 1 [.inl x0, .inl x1] h (Qi res) := by
  refine Runs.of rfl (Nat.le_of_ble_eq_true rfl) ?_
  show Go M_X12_has 1 0 [some (.inl x0), some (.inl x1)] [] h (Qi res)
  unfold F_X12_has at H
  refine g_iload_n (T_X12_has 0 _ _ _ rfl) rfl ?_
  refine g_iload_n (T_X12_has 1 _ _ _ rfl) rfl ?_
  refine g_ishr (T_X12_has 2 _ _ _ rfl) ?_
  refine g_iconst (T_X12_has 3 _ _ _ rfl) ⟨by decide, by decide⟩ ?_
  refine g_iand (T_X12_has 4 _ _ _ rfl) ?_
  refine g_iconst (T_X12_has 5 _ _ _ rfl) ⟨by decide, by decide⟩ ?_
  refine g_icmp_ne (tgt := 13) (T_X12_has 6 _ _ _ rfl) (by decide) (fun cc => ?_) (fun cc => ?_)
  · replace H := ite_n cc H
    refine g_iconst (T_X12_has 9 _ _ _ rfl) ⟨by decide, by decide⟩ ?_
    exact g_zret (T_X12_has 10 _ _ _ rfl) rfl (by decide) (qi_of H)
  · replace H := ite_p cc H
    refine g_iconst (T_X12_has 7 _ _ _ rfl) ⟨by decide, by decide⟩ ?_
    refine g_goto (tgt := 14) (T_X12_has 8 _ _ _ rfl) (by decide) ?_
    exact g_zret (T_X12_has 10 _ _ _ rfl) rfl (by decide) (qi_of H)
def F_X12_isStreet (N : Nat) (x1 : Int) (h : Hp) : Option (Int × Hp) :=
  if x1 < 0 then
    some (0, h)
  else
  if 14 ≤ x1 then
    some (0, h)
  else
  bd (F_X12_has N (h 83 12) x1 h) fun y2 h1 =>
  if y2 = 0 then
    some (0, h1)
  else
  some (1, h1)
set_option maxRecDepth 100000 in
set_option maxHeartbeats 4000000 in
theorem R_X12_isStreet (N : Nat) (x1 : Int) (h : Hp) (res : Int × Hp) (H : F_X12_isStreet N x1 h = some res) : Runs M_X12_isStreet 2 [.inr 84, .inl x1] h (Qi res) := by
  refine Runs.of rfl (Nat.le_of_ble_eq_true rfl) ?_
  show Go M_X12_isStreet 2 0 [some (.inr 84), some (.inl x1)] [] h (Qi res)
  unfold F_X12_isStreet at H
  refine g_iload_n (T_X12_isStreet 0 _ _ _ rfl) rfl ?_
  refine g_if_lt (tgt := 25) (T_X12_isStreet 1 _ _ _ rfl) (by decide) (fun cc => ?_) (fun cc => ?_)
  · replace H := ite_p cc H
    refine g_iconst (T_X12_isStreet 12 _ _ _ rfl) ⟨by decide, by decide⟩ ?_
    exact g_zret (T_X12_isStreet 13 _ _ _ rfl) rfl (by decide) (qi_of H)
  · replace H := ite_n cc H
    refine g_iload_n (T_X12_isStreet 2 _ _ _ rfl) rfl ?_
    refine g_bipush (T_X12_isStreet 3 _ _ _ rfl) (by decide) ?_
    refine g_icmp_ge (tgt := 25) (T_X12_isStreet 4 _ _ _ rfl) (by decide) (fun cc => ?_) (fun cc => ?_)
    · replace H := ite_p cc H
      refine g_iconst (T_X12_isStreet 12 _ _ _ rfl) ⟨by decide, by decide⟩ ?_
      exact g_zret (T_X12_isStreet 13 _ _ _ rfl) rfl (by decide) (qi_of H)
    · replace H := ite_n cc H
      refine g_aload_n (T_X12_isStreet 5 _ _ _ rfl) rfl ?_
      refine g_getI (c := 83) (T_X12_isStreet 6 _ _ _ rfl) fl_X12_135 rfl (Or.inl rfl) ?_
      refine g_iload_n (T_X12_isStreet 7 _ _ _ rfl) rfl ?_
      obtain ⟨y2, h1, hq, H⟩ := bd_some H
      refine g_callSi (M' := M_X12_has) (av := [.inl (h 83 12), .inl x1]) (st := []) (T_X12_isStreet 8 _ _ _ rfl) ml_X12_139 cb_X12_has rfl (Nat.le_of_ble_eq_true rfl) (by omega) (R_X12_has N _ _ _ _ hq) ?_
      refine g_if_eq (tgt := 25) (T_X12_isStreet 9 _ _ _ rfl) (by decide) (fun cc => ?_) (fun cc => ?_)
      · replace H := ite_p cc H
        refine g_iconst (T_X12_isStreet 12 _ _ _ rfl) ⟨by decide, by decide⟩ ?_
        exact g_zret (T_X12_isStreet 13 _ _ _ rfl) rfl (by decide) (qi_of H)
      · replace H := ite_n cc H
        refine g_iconst (T_X12_isStreet 10 _ _ _ rfl) ⟨by decide, by decide⟩ ?_
        refine g_goto (tgt := 26) (T_X12_isStreet 11 _ _ _ rfl) (by decide) ?_
        exact g_zret (T_X12_isStreet 13 _ _ _ rfl) rfl (by decide) (qi_of H)
def L_X12_laysWays_176 (N : Nat) (k243 : Int → Int → Hp → Option (Hp)) : Nat → Int → Int → Int → Hp → Option (Hp)
  | 0, _, _, _, _ => none
  | n + 1, x3, x4, x5, h =>
    if 14 ≤ x5 then
      k243 x3 x4 h
    else
    grd (0 ≤ (w32 ((w32 (14 * x4)) + x5)) ∧ (w32 ((w32 (14 * x4)) + x5)) < 196) <|
    grd (0 ≤ (w32 ((w32 (14 * x4)) + x3)) ∧ (w32 ((w32 (14 * x4)) + x3)) < 196) <|
    grd (0 ≤ (w32 ((w32 (14 * x3)) + x5)) ∧ (w32 ((w32 (14 * x3)) + x5)) < 196) <|
    bd (F_X12_min N (h 91 (w32 ((w32 (14 * x4)) + x5)).toNat) (w32 ((h 91 (w32 ((w32 (14 * x4)) + x3)).toNat) + (h 91 (w32 ((w32 (14 * x3)) + x5)).toNat))) h) fun y2 h1 =>
    grd (0 ≤ (w32 ((w32 (14 * x4)) + x5)) ∧ (w32 ((w32 (14 * x4)) + x5)) < 196) <|
    bnd (hw h1 91 (w32 ((w32 (14 * x4)) + x5)).toNat y2) fun h3 =>
    bnd (w32 (x5 + 1)) fun y4 =>
    (L_X12_laysWays_176 N k243 n) x3 x4 y4 h3
set_option maxRecDepth 100000 in
set_option maxHeartbeats 4000000 in
theorem R_L_X12_laysWays_176 (N : Nat) (k243 : Int → Int → Hp → Option (Hp)) (hk243 : ∀ (x3 : Int) (x4 : Int) (h : Hp) (res : Hp), k243 x3 x4 h = some res → Go M_X12_laysWays 3 243 [some (.inr 84), none, none, some (.inl x3), some (.inl x4), none, none] [] h (Qv res)) : ∀ (n : Nat) (x3 : Int) (x4 : Int) (x5 : Int) (h : Hp) (res : Hp), L_X12_laysWays_176 N k243 n x3 x4 x5 h = some res → Go M_X12_laysWays 3 176 [some (.inr 84), none, none, some (.inl x3), some (.inl x4), some (.inl x5), none] [] h (Qv res)
  | 0, _, _, _, _, _, H => by cases H
  | n + 1, x3, x4, x5, h, res, H => by
    have ih := R_L_X12_laysWays_176 N k243 hk243 n
    simp only [L_X12_laysWays_176] at H
    refine g_iload (T_X12_laysWays 94 _ _ _ rfl) rfl ?_
    refine g_bipush (T_X12_laysWays 95 _ _ _ rfl) (by decide) ?_
    refine g_icmp_ge (tgt := 243) (T_X12_laysWays 96 _ _ _ rfl) (by decide) (fun cc => ?_) (fun cc => ?_)
    · replace H := ite_p cc H
      refine g_weak [true, false, false, true, true, false, false] ?_
      exact hk243 _ _ _ _ H
    · replace H := ite_n cc H
      refine g_aload_n (T_X12_laysWays 97 _ _ _ rfl) rfl ?_
      refine g_getR (c := 83) (r := 92) (T_X12_laysWays 98 _ _ _ rfl) fl_X12_31 rfl (nR rfl) rfl (by decide) ?_
      refine g_bipush (T_X12_laysWays 99 _ _ _ rfl) (by decide) ?_
      refine g_iload (T_X12_laysWays 100 _ _ _ rfl) rfl ?_
      refine g_imul (T_X12_laysWays 101 _ _ _ rfl) ?_
      refine g_iload (T_X12_laysWays 102 _ _ _ rfl) rfl ?_
      refine g_iadd (T_X12_laysWays 103 _ _ _ rfl) ?_
      refine g_aload_n (T_X12_laysWays 104 _ _ _ rfl) rfl ?_
      refine g_getR (c := 83) (r := 92) (T_X12_laysWays 105 _ _ _ rfl) fl_X12_31 rfl (nR rfl) rfl (by decide) ?_
      refine g_bipush (T_X12_laysWays 106 _ _ _ rfl) (by decide) ?_
      refine g_iload (T_X12_laysWays 107 _ _ _ rfl) rfl ?_
      refine g_imul (T_X12_laysWays 108 _ _ _ rfl) ?_
      refine g_iload (T_X12_laysWays 109 _ _ _ rfl) rfl ?_
      refine g_iadd (T_X12_laysWays 110 _ _ _ rfl) ?_
      obtain ⟨hg, H⟩ := grd_some H
      refine g_iald (c := 91) (T_X12_laysWays 111 _ _ _ rfl) rfl hg ?_
      refine g_aload_n (T_X12_laysWays 112 _ _ _ rfl) rfl ?_
      refine g_getR (c := 83) (r := 92) (T_X12_laysWays 113 _ _ _ rfl) fl_X12_31 rfl (nR rfl) rfl (by decide) ?_
      refine g_bipush (T_X12_laysWays 114 _ _ _ rfl) (by decide) ?_
      refine g_iload (T_X12_laysWays 115 _ _ _ rfl) rfl ?_
      refine g_imul (T_X12_laysWays 116 _ _ _ rfl) ?_
      refine g_iload_n (T_X12_laysWays 117 _ _ _ rfl) rfl ?_
      refine g_iadd (T_X12_laysWays 118 _ _ _ rfl) ?_
      obtain ⟨hg, H⟩ := grd_some H
      refine g_iald (c := 91) (T_X12_laysWays 119 _ _ _ rfl) rfl hg ?_
      refine g_aload_n (T_X12_laysWays 120 _ _ _ rfl) rfl ?_
      refine g_getR (c := 83) (r := 92) (T_X12_laysWays 121 _ _ _ rfl) fl_X12_31 rfl (nR rfl) rfl (by decide) ?_
      refine g_bipush (T_X12_laysWays 122 _ _ _ rfl) (by decide) ?_
      refine g_iload_n (T_X12_laysWays 123 _ _ _ rfl) rfl ?_
      refine g_imul (T_X12_laysWays 124 _ _ _ rfl) ?_
      refine g_iload (T_X12_laysWays 125 _ _ _ rfl) rfl ?_
      refine g_iadd (T_X12_laysWays 126 _ _ _ rfl) ?_
      obtain ⟨hg, H⟩ := grd_some H
      refine g_iald (c := 91) (T_X12_laysWays 127 _ _ _ rfl) rfl hg ?_
      refine g_iadd (T_X12_laysWays 128 _ _ _ rfl) ?_
      obtain ⟨y2, h1, hq, H⟩ := bd_some H
      refine g_callSi (M' := M_X12_min) (av := [.inl (h 91 (w32 ((w32 (14 * x4)) + x5)).toNat), .inl (w32 ((h 91 (w32 ((w32 (14 * x4)) + x3)).toNat) + (h 91 (w32 ((w32 (14 * x3)) + x5)).toNat)))]) (st := [.inl (w32 ((w32 (14 * x4)) + x5)), .inr 92]) (T_X12_laysWays 129 _ _ _ rfl) ml_X12_151 cb_X12_min rfl (Nat.le_of_ble_eq_true rfl) (by omega) (R_X12_min N _ _ _ _ hq) ?_
      obtain ⟨hg, H⟩ := grd_some H
      refine g_iast (c := 91) (T_X12_laysWays 130 _ _ _ rfl) rfl hg ?_
      refine g_bndH H fun h3 H => ?_
      refine g_iincB (T_X12_laysWays 131 _ _ _ rfl) rfl (by decide) H fun y4 H => ?_
      refine g_goto (tgt := 176) (T_X12_laysWays 132 _ _ _ rfl) (by decide) ?_
      refine g_weak [true, false, false, true, true, true, false] ?_
      exact ih _ _ _ _ _ H
def L_X12_laysWays_166 (N : Nat) (k249 : Int → Hp → Option (Hp)) : Nat → Int → Int → Hp → Option (Hp)
  | 0, _, _, _ => none
  | n + 1, x3, x4, h =>
    if 14 ≤ x4 then
      k249 x3 h
    else
    L_X12_laysWays_176 N (fun (v1 : Int) (v2 : Int) (h3 : Hp) =>
      bnd (w32 (v2 + 1)) fun y4 =>
      (L_X12_laysWays_166 N k249 n) v1 y4 h3) N x3 x4 0 h
set_option maxRecDepth 100000 in
set_option maxHeartbeats 4000000 in
theorem R_L_X12_laysWays_166 (N : Nat) (k249 : Int → Hp → Option (Hp)) (hk249 : ∀ (x3 : Int) (h : Hp) (res : Hp), k249 x3 h = some res → Go M_X12_laysWays 3 249 [some (.inr 84), none, none, some (.inl x3), none, none, none] [] h (Qv res)) : ∀ (n : Nat) (x3 : Int) (x4 : Int) (h : Hp) (res : Hp), L_X12_laysWays_166 N k249 n x3 x4 h = some res → Go M_X12_laysWays 3 166 [some (.inr 84), none, none, some (.inl x3), some (.inl x4), none, none] [] h (Qv res)
  | 0, _, _, _, _, H => by cases H
  | n + 1, x3, x4, h, res, H => by
    have ih := R_L_X12_laysWays_166 N k249 hk249 n
    simp only [L_X12_laysWays_166] at H
    refine g_iload (T_X12_laysWays 89 _ _ _ rfl) rfl ?_
    refine g_bipush (T_X12_laysWays 90 _ _ _ rfl) (by decide) ?_
    refine g_icmp_ge (tgt := 249) (T_X12_laysWays 91 _ _ _ rfl) (by decide) (fun cc => ?_) (fun cc => ?_)
    · replace H := ite_p cc H
      refine g_weak [true, false, false, true, false, false, false] ?_
      exact hk249 _ _ _ H
    · replace H := ite_n cc H
      refine g_iconst (T_X12_laysWays 92 _ _ _ rfl) ⟨by decide, by decide⟩ ?_
      refine g_istore (T_X12_laysWays 93 _ _ _ rfl) (by decide) ?_
      refine g_weak [true, false, false, true, true, true, false] ?_
      refine R_L_X12_laysWays_176 N _ (fun v1 v2 h3 res H => ?_) _ _ _ _ _ _ H
      · refine g_iincB (T_X12_laysWays 133 _ _ _ rfl) rfl (by decide) H fun y4 H => ?_
        refine g_goto (tgt := 166) (T_X12_laysWays 134 _ _ _ rfl) (by decide) ?_
        refine g_weak [true, false, false, true, true, false, false] ?_
        exact ih _ _ _ _ H
def L_X12_laysWays_157 (N : Nat) : Nat → Int → Hp → Option (Hp)
  | 0, _, _ => none
  | n + 1, x3, h =>
    if 14 ≤ x3 then
      some h
    else
    L_X12_laysWays_166 N (fun (v1 : Int) (h2 : Hp) =>
      bnd (w32 (v1 + 1)) fun y3 =>
      (L_X12_laysWays_157 N n) y3 h2) N x3 0 h
set_option maxRecDepth 100000 in
set_option maxHeartbeats 4000000 in
theorem R_L_X12_laysWays_157 (N : Nat) : ∀ (n : Nat) (x3 : Int) (h : Hp) (res : Hp), L_X12_laysWays_157 N n x3 h = some res → Go M_X12_laysWays 3 157 [some (.inr 84), none, none, some (.inl x3), none, none, none] [] h (Qv res)
  | 0, _, _, _, H => by cases H
  | n + 1, x3, h, res, H => by
    have ih := R_L_X12_laysWays_157 N n
    simp only [L_X12_laysWays_157] at H
    refine g_iload_n (T_X12_laysWays 84 _ _ _ rfl) rfl ?_
    refine g_bipush (T_X12_laysWays 85 _ _ _ rfl) (by decide) ?_
    refine g_icmp_ge (tgt := 255) (T_X12_laysWays 86 _ _ _ rfl) (by decide) (fun cc => ?_) (fun cc => ?_)
    · replace H := ite_p cc H
      exact g_vret (T_X12_laysWays 137 _ _ _ rfl) rfl (qv_of H)
    · replace H := ite_n cc H
      refine g_iconst (T_X12_laysWays 87 _ _ _ rfl) ⟨by decide, by decide⟩ ?_
      refine g_istore (T_X12_laysWays 88 _ _ _ rfl) (by decide) ?_
      refine g_weak [true, false, false, true, true, false, false] ?_
      refine R_L_X12_laysWays_166 N _ (fun v1 h2 res H => ?_) _ _ _ _ _ H
      · refine g_iincB (T_X12_laysWays 135 _ _ _ rfl) rfl (by decide) H fun y3 H => ?_
        refine g_goto (tgt := 157) (T_X12_laysWays 136 _ _ _ rfl) (by decide) ?_
        refine g_weak [true, false, false, true, false, false, false] ?_
        exact ih _ _ _ H
def J_X12_laysWays_142 (N : Nat) (k11 : Int → Int → Int → Int → Hp → Option (Hp)) (x1 : Int) (x2 : Int) (x3 : Int) (x4 : Int) (s1 : Int) (s2 : Int) (h : Hp) : Option (Hp) :=
  grd (0 ≤ s1 ∧ s1 < 196) <|
  bnd (hw h 91 s1.toNat s2) fun h1 =>
  bnd (w32 (x4 + 1)) fun y2 =>
  k11 x1 x2 x3 y2 h1
set_option maxRecDepth 100000 in
set_option maxHeartbeats 4000000 in
theorem R_J_X12_laysWays_142 (N : Nat) (k11 : Int → Int → Int → Int → Hp → Option (Hp)) (hk11 : ∀ (x1 : Int) (x2 : Int) (x3 : Int) (x4 : Int) (h : Hp) (res : Hp), k11 x1 x2 x3 x4 h = some res → Go M_X12_laysWays 3 11 [some (.inr 84), some (.inl x1), some (.inl x2), some (.inl x3), some (.inl x4), none, none] [] h (Qv res)) (x1 : Int) (x2 : Int) (x3 : Int) (x4 : Int) (s1 : Int) (s2 : Int) (h : Hp) (res : Hp) (H : J_X12_laysWays_142 N k11 x1 x2 x3 x4 s1 s2 h = some res) : Go M_X12_laysWays 3 142 [some (.inr 84), some (.inl x1), some (.inl x2), some (.inl x3), some (.inl x4), none, none] [.inl s2, .inl s1, .inr 92] h (Qv res) := by
  unfold J_X12_laysWays_142 at H
  obtain ⟨hg, H⟩ := grd_some H
  refine g_iast (c := 91) (T_X12_laysWays 77 _ _ _ rfl) rfl hg ?_
  refine g_bndH H fun h1 H => ?_
  refine g_iincB (T_X12_laysWays 78 _ _ _ rfl) rfl (by decide) H fun y2 H => ?_
  refine g_goto (tgt := 11) (T_X12_laysWays 79 _ _ _ rfl) (by decide) ?_
  refine g_weak [true, true, true, true, true, false, false] ?_
  exact hk11 _ _ _ _ _ _ H
def J_X12_laysWays_120 (N : Nat) (k11 : Int → Int → Int → Int → Hp → Option (Hp)) (x1 : Int) (x2 : Int) (x3 : Int) (x4 : Int) (x6 : Int) (s1 : Int) (h : Hp) : Option (Hp) :=
  if x6 = 0 then
    J_X12_laysWays_142 N k11 x1 x2 x3 x4 s1 1000000 h
  else
  grd (0 ≤ (w32 ((w32 (14 * x3)) + x4)) ∧ (w32 ((w32 (14 * x3)) + x4)) < 196) <|
  J_X12_laysWays_142 N k11 x1 x2 x3 x4 s1 (h 90 (w32 ((w32 (14 * x3)) + x4)).toNat) h
set_option maxRecDepth 100000 in
set_option maxHeartbeats 4000000 in
theorem R_J_X12_laysWays_120 (N : Nat) (k11 : Int → Int → Int → Int → Hp → Option (Hp)) (hk11 : ∀ (x1 : Int) (x2 : Int) (x3 : Int) (x4 : Int) (h : Hp) (res : Hp), k11 x1 x2 x3 x4 h = some res → Go M_X12_laysWays 3 11 [some (.inr 84), some (.inl x1), some (.inl x2), some (.inl x3), some (.inl x4), none, none] [] h (Qv res)) (x1 : Int) (x2 : Int) (x3 : Int) (x4 : Int) (x6 : Int) (s1 : Int) (h : Hp) (res : Hp) (H : J_X12_laysWays_120 N k11 x1 x2 x3 x4 x6 s1 h = some res) : Go M_X12_laysWays 3 120 [some (.inr 84), some (.inl x1), some (.inl x2), some (.inl x3), some (.inl x4), none, some (.inl x6)] [.inl s1, .inr 92] h (Qv res) := by
  unfold J_X12_laysWays_120 at H
  refine g_iload (T_X12_laysWays 65 _ _ _ rfl) rfl ?_
  refine g_if_eq (tgt := 140) (T_X12_laysWays 66 _ _ _ rfl) (by decide) (fun cc => ?_) (fun cc => ?_)
  · replace H := ite_p cc H
    refine g_ldc (T_X12_laysWays 76 _ _ _ rfl) kc_X12_150 ⟨by decide, by decide⟩ ?_
    refine g_weak [true, true, true, true, true, false, false] ?_
    exact R_J_X12_laysWays_142 N k11 hk11 _ _ _ _ _ _ _ _ H
  · replace H := ite_n cc H
    refine g_aload_n (T_X12_laysWays 67 _ _ _ rfl) rfl ?_
    refine g_getR (c := 83) (r := 91) (T_X12_laysWays 68 _ _ _ rfl) fl_X12_28 rfl (nR rfl) rfl (by decide) ?_
    refine g_bipush (T_X12_laysWays 69 _ _ _ rfl) (by decide) ?_
    refine g_iload_n (T_X12_laysWays 70 _ _ _ rfl) rfl ?_
    refine g_imul (T_X12_laysWays 71 _ _ _ rfl) ?_
    refine g_iload (T_X12_laysWays 72 _ _ _ rfl) rfl ?_
    refine g_iadd (T_X12_laysWays 73 _ _ _ rfl) ?_
    obtain ⟨hg, H⟩ := grd_some H
    refine g_iald (c := 90) (T_X12_laysWays 74 _ _ _ rfl) rfl hg ?_
    refine g_goto (tgt := 142) (T_X12_laysWays 75 _ _ _ rfl) (by decide) ?_
    refine g_weak [true, true, true, true, true, false, false] ?_
    exact R_J_X12_laysWays_142 N k11 hk11 _ _ _ _ _ _ _ _ H
def J_X12_laysWays_89 (N : Nat) (k11 : Int → Int → Int → Int → Hp → Option (Hp)) (x1 : Int) (x2 : Int) (x3 : Int) (x4 : Int) (s0 : Int) (h : Hp) : Option (Hp) :=
  if x3 = x4 then
    bd (F_X12_isStreet N x3 h) fun y2 h1 =>
    if y2 = 0 then
      J_X12_laysWays_120 N k11 x1 x2 x3 x4 s0 (w32 ((w32 (14 * x3)) + x4)) h1
    else
    J_X12_laysWays_142 N k11 x1 x2 x3 x4 (w32 ((w32 (14 * x3)) + x4)) 0 h1
  else
  J_X12_laysWays_120 N k11 x1 x2 x3 x4 s0 (w32 ((w32 (14 * x3)) + x4)) h
set_option maxRecDepth 100000 in
set_option maxHeartbeats 4000000 in
theorem R_J_X12_laysWays_89 (N : Nat) (k11 : Int → Int → Int → Int → Hp → Option (Hp)) (hk11 : ∀ (x1 : Int) (x2 : Int) (x3 : Int) (x4 : Int) (h : Hp) (res : Hp), k11 x1 x2 x3 x4 h = some res → Go M_X12_laysWays 3 11 [some (.inr 84), some (.inl x1), some (.inl x2), some (.inl x3), some (.inl x4), none, none] [] h (Qv res)) (x1 : Int) (x2 : Int) (x3 : Int) (x4 : Int) (s0 : Int) (h : Hp) (res : Hp) (H : J_X12_laysWays_89 N k11 x1 x2 x3 x4 s0 h = some res) : Go M_X12_laysWays 3 89 [some (.inr 84), some (.inl x1), some (.inl x2), some (.inl x3), some (.inl x4), none, none] [.inl s0] h (Qv res) := by
  unfold J_X12_laysWays_89 at H
  refine g_istore (T_X12_laysWays 48 _ _ _ rfl) (by decide) ?_
  refine g_aload_n (T_X12_laysWays 49 _ _ _ rfl) rfl ?_
  refine g_getR (c := 83) (r := 92) (T_X12_laysWays 50 _ _ _ rfl) fl_X12_31 rfl (nR rfl) rfl (by decide) ?_
  refine g_bipush (T_X12_laysWays 51 _ _ _ rfl) (by decide) ?_
  refine g_iload_n (T_X12_laysWays 52 _ _ _ rfl) rfl ?_
  refine g_imul (T_X12_laysWays 53 _ _ _ rfl) ?_
  refine g_iload (T_X12_laysWays 54 _ _ _ rfl) rfl ?_
  refine g_iadd (T_X12_laysWays 55 _ _ _ rfl) ?_
  refine g_iload_n (T_X12_laysWays 56 _ _ _ rfl) rfl ?_
  refine g_iload (T_X12_laysWays 57 _ _ _ rfl) rfl ?_
  refine g_icmp_ne (tgt := 120) (T_X12_laysWays 58 _ _ _ rfl) (by decide) (fun cc => ?_) (fun cc => ?_)
  · replace H := ite_n cc H
    refine g_weak [true, true, true, true, true, false, true] ?_
    exact R_J_X12_laysWays_120 N k11 hk11 _ _ _ _ _ _ _ _ H
  · replace H := ite_p cc H
    refine g_aload_n (T_X12_laysWays 59 _ _ _ rfl) rfl ?_
    refine g_iload_n (T_X12_laysWays 60 _ _ _ rfl) rfl ?_
    obtain ⟨y2, h1, hq, H⟩ := bd_some H
    refine g_callVi (M' := M_X12_isStreet) (c := 83) (av := [.inl x3]) (st := [.inl (w32 ((w32 (14 * x3)) + x4)), .inr 92]) (T_X12_laysWays 61 _ _ _ rfl) ml_X12_146 cb_X12_isStreet rfl rfl (Nat.le_of_ble_eq_true rfl) (by omega) (R_X12_isStreet N _ _ _ hq) ?_
    refine g_if_eq (tgt := 120) (T_X12_laysWays 62 _ _ _ rfl) (by decide) (fun cc => ?_) (fun cc => ?_)
    · replace H := ite_p cc H
      refine g_weak [true, true, true, true, true, false, true] ?_
      exact R_J_X12_laysWays_120 N k11 hk11 _ _ _ _ _ _ _ _ H
    · replace H := ite_n cc H
      refine g_iconst (T_X12_laysWays 63 _ _ _ rfl) ⟨by decide, by decide⟩ ?_
      refine g_goto (tgt := 142) (T_X12_laysWays 64 _ _ _ rfl) (by decide) ?_
      refine g_weak [true, true, true, true, true, false, false] ?_
      exact R_J_X12_laysWays_142 N k11 hk11 _ _ _ _ _ _ _ _ H
def J_X12_laysWays_45 (N : Nat) (k11 : Int → Int → Int → Int → Hp → Option (Hp)) (x1 : Int) (x2 : Int) (x3 : Int) (x4 : Int) (s0 : Int) (h : Hp) : Option (Hp) :=
  bd (F_X12_isStreet N x3 h) fun y2 h1 =>
  if y2 = 0 then
    J_X12_laysWays_89 N k11 x1 x2 x3 x4 0 h1
  else
  bd (F_X12_isStreet N x4 h1) fun y4 h3 =>
  if y4 = 0 then
    J_X12_laysWays_89 N k11 x1 x2 x3 x4 0 h3
  else
  grd (0 ≤ (w32 ((w32 (14 * x3)) + x4)) ∧ (w32 ((w32 (14 * x3)) + x4)) < 196) <|
  if (h3 90 (w32 ((w32 (14 * x3)) + x4)).toNat) ≤ 0 then
    J_X12_laysWays_89 N k11 x1 x2 x3 x4 0 h3
  else
  if s0 = 0 then
    J_X12_laysWays_89 N k11 x1 x2 x3 x4 1 h3
  else
  J_X12_laysWays_89 N k11 x1 x2 x3 x4 0 h3
set_option maxRecDepth 100000 in
set_option maxHeartbeats 4000000 in
theorem R_J_X12_laysWays_45 (N : Nat) (k11 : Int → Int → Int → Int → Hp → Option (Hp)) (hk11 : ∀ (x1 : Int) (x2 : Int) (x3 : Int) (x4 : Int) (h : Hp) (res : Hp), k11 x1 x2 x3 x4 h = some res → Go M_X12_laysWays 3 11 [some (.inr 84), some (.inl x1), some (.inl x2), some (.inl x3), some (.inl x4), none, none] [] h (Qv res)) (x1 : Int) (x2 : Int) (x3 : Int) (x4 : Int) (s0 : Int) (h : Hp) (res : Hp) (H : J_X12_laysWays_45 N k11 x1 x2 x3 x4 s0 h = some res) : Go M_X12_laysWays 3 45 [some (.inr 84), some (.inl x1), some (.inl x2), some (.inl x3), some (.inl x4), none, none] [.inl s0] h (Qv res) := by
  unfold J_X12_laysWays_45 at H
  refine g_istore (T_X12_laysWays 25 _ _ _ rfl) (by decide) ?_
  refine g_aload_n (T_X12_laysWays 26 _ _ _ rfl) rfl ?_
  refine g_iload_n (T_X12_laysWays 27 _ _ _ rfl) rfl ?_
  obtain ⟨y2, h1, hq, H⟩ := bd_some H
  refine g_callVi (M' := M_X12_isStreet) (c := 83) (av := [.inl x3]) (st := []) (T_X12_laysWays 28 _ _ _ rfl) ml_X12_146 cb_X12_isStreet rfl rfl (Nat.le_of_ble_eq_true rfl) (by omega) (R_X12_isStreet N _ _ _ hq) ?_
  refine g_if_eq (tgt := 88) (T_X12_laysWays 29 _ _ _ rfl) (by decide) (fun cc => ?_) (fun cc => ?_)
  · replace H := ite_p cc H
    refine g_iconst (T_X12_laysWays 47 _ _ _ rfl) ⟨by decide, by decide⟩ ?_
    refine g_weak [true, true, true, true, true, false, false] ?_
    exact R_J_X12_laysWays_89 N k11 hk11 _ _ _ _ _ _ _ H
  · replace H := ite_n cc H
    refine g_aload_n (T_X12_laysWays 30 _ _ _ rfl) rfl ?_
    refine g_iload (T_X12_laysWays 31 _ _ _ rfl) rfl ?_
    obtain ⟨y4, h3, hq, H⟩ := bd_some H
    refine g_callVi (M' := M_X12_isStreet) (c := 83) (av := [.inl x4]) (st := []) (T_X12_laysWays 32 _ _ _ rfl) ml_X12_146 cb_X12_isStreet rfl rfl (Nat.le_of_ble_eq_true rfl) (by omega) (R_X12_isStreet N _ _ _ hq) ?_
    refine g_if_eq (tgt := 88) (T_X12_laysWays 33 _ _ _ rfl) (by decide) (fun cc => ?_) (fun cc => ?_)
    · replace H := ite_p cc H
      refine g_iconst (T_X12_laysWays 47 _ _ _ rfl) ⟨by decide, by decide⟩ ?_
      refine g_weak [true, true, true, true, true, false, false] ?_
      exact R_J_X12_laysWays_89 N k11 hk11 _ _ _ _ _ _ _ H
    · replace H := ite_n cc H
      refine g_aload_n (T_X12_laysWays 34 _ _ _ rfl) rfl ?_
      refine g_getR (c := 83) (r := 91) (T_X12_laysWays 35 _ _ _ rfl) fl_X12_28 rfl (nR rfl) rfl (by decide) ?_
      refine g_bipush (T_X12_laysWays 36 _ _ _ rfl) (by decide) ?_
      refine g_iload_n (T_X12_laysWays 37 _ _ _ rfl) rfl ?_
      refine g_imul (T_X12_laysWays 38 _ _ _ rfl) ?_
      refine g_iload (T_X12_laysWays 39 _ _ _ rfl) rfl ?_
      refine g_iadd (T_X12_laysWays 40 _ _ _ rfl) ?_
      obtain ⟨hg, H⟩ := grd_some H
      refine g_iald (c := 90) (T_X12_laysWays 41 _ _ _ rfl) rfl hg ?_
      refine g_if_le (tgt := 88) (T_X12_laysWays 42 _ _ _ rfl) (by decide) (fun cc => ?_) (fun cc => ?_)
      · replace H := ite_p cc H
        refine g_iconst (T_X12_laysWays 47 _ _ _ rfl) ⟨by decide, by decide⟩ ?_
        refine g_weak [true, true, true, true, true, false, false] ?_
        exact R_J_X12_laysWays_89 N k11 hk11 _ _ _ _ _ _ _ H
      · replace H := ite_n cc H
        refine g_iload (T_X12_laysWays 43 _ _ _ rfl) rfl ?_
        refine g_if_ne (tgt := 88) (T_X12_laysWays 44 _ _ _ rfl) (by decide) (fun cc => ?_) (fun cc => ?_)
        · replace H := ite_n cc H
          refine g_iconst (T_X12_laysWays 47 _ _ _ rfl) ⟨by decide, by decide⟩ ?_
          refine g_weak [true, true, true, true, true, false, false] ?_
          exact R_J_X12_laysWays_89 N k11 hk11 _ _ _ _ _ _ _ H
        · replace H := ite_p cc H
          refine g_iconst (T_X12_laysWays 45 _ _ _ rfl) ⟨by decide, by decide⟩ ?_
          refine g_goto (tgt := 89) (T_X12_laysWays 46 _ _ _ rfl) (by decide) ?_
          refine g_weak [true, true, true, true, true, false, false] ?_
          exact R_J_X12_laysWays_89 N k11 hk11 _ _ _ _ _ _ _ H
def J_X12_laysWays_29 (N : Nat) (k11 : Int → Int → Int → Int → Hp → Option (Hp)) (x1 : Int) (x2 : Int) (x3 : Int) (x4 : Int) (h : Hp) : Option (Hp) :=
  if x3 = x2 then
    if x4 = x1 then
      J_X12_laysWays_45 N k11 x1 x2 x3 x4 1 h
    else
    J_X12_laysWays_45 N k11 x1 x2 x3 x4 0 h
  else
  J_X12_laysWays_45 N k11 x1 x2 x3 x4 0 h
set_option maxRecDepth 100000 in
set_option maxHeartbeats 4000000 in
theorem R_J_X12_laysWays_29 (N : Nat) (k11 : Int → Int → Int → Int → Hp → Option (Hp)) (hk11 : ∀ (x1 : Int) (x2 : Int) (x3 : Int) (x4 : Int) (h : Hp) (res : Hp), k11 x1 x2 x3 x4 h = some res → Go M_X12_laysWays 3 11 [some (.inr 84), some (.inl x1), some (.inl x2), some (.inl x3), some (.inl x4), none, none] [] h (Qv res)) (x1 : Int) (x2 : Int) (x3 : Int) (x4 : Int) (h : Hp) (res : Hp) (H : J_X12_laysWays_29 N k11 x1 x2 x3 x4 h = some res) : Go M_X12_laysWays 3 29 [some (.inr 84), some (.inl x1), some (.inl x2), some (.inl x3), some (.inl x4), none, none] [] h (Qv res) := by
  unfold J_X12_laysWays_29 at H
  refine g_iload_n (T_X12_laysWays 16 _ _ _ rfl) rfl ?_
  refine g_iload_n (T_X12_laysWays 17 _ _ _ rfl) rfl ?_
  refine g_icmp_ne (tgt := 44) (T_X12_laysWays 18 _ _ _ rfl) (by decide) (fun cc => ?_) (fun cc => ?_)
  · replace H := ite_n cc H
    refine g_iconst (T_X12_laysWays 24 _ _ _ rfl) ⟨by decide, by decide⟩ ?_
    refine g_weak [true, true, true, true, true, false, false] ?_
    exact R_J_X12_laysWays_45 N k11 hk11 _ _ _ _ _ _ _ H
  · replace H := ite_p cc H
    refine g_iload (T_X12_laysWays 19 _ _ _ rfl) rfl ?_
    refine g_iload_n (T_X12_laysWays 20 _ _ _ rfl) rfl ?_
    refine g_icmp_ne (tgt := 44) (T_X12_laysWays 21 _ _ _ rfl) (by decide) (fun cc => ?_) (fun cc => ?_)
    · replace H := ite_n cc H
      refine g_iconst (T_X12_laysWays 24 _ _ _ rfl) ⟨by decide, by decide⟩ ?_
      refine g_weak [true, true, true, true, true, false, false] ?_
      exact R_J_X12_laysWays_45 N k11 hk11 _ _ _ _ _ _ _ H
    · replace H := ite_p cc H
      refine g_iconst (T_X12_laysWays 22 _ _ _ rfl) ⟨by decide, by decide⟩ ?_
      refine g_goto (tgt := 45) (T_X12_laysWays 23 _ _ _ rfl) (by decide) ?_
      refine g_weak [true, true, true, true, true, false, false] ?_
      exact R_J_X12_laysWays_45 N k11 hk11 _ _ _ _ _ _ _ H
def L_X12_laysWays_11 (N : Nat) (k149 : Int → Int → Int → Hp → Option (Hp)) : Nat → Int → Int → Int → Int → Hp → Option (Hp)
  | 0, _, _, _, _, _ => none
  | n + 1, x1, x2, x3, x4, h =>
    if 14 ≤ x4 then
      k149 x1 x2 x3 h
    else
    if x3 = x1 then
      if x4 = x2 then
        J_X12_laysWays_45 N (L_X12_laysWays_11 N k149 n) x1 x2 x3 x4 1 h
      else
      J_X12_laysWays_29 N (L_X12_laysWays_11 N k149 n) x1 x2 x3 x4 h
    else
    J_X12_laysWays_29 N (L_X12_laysWays_11 N k149 n) x1 x2 x3 x4 h
set_option maxRecDepth 100000 in
set_option maxHeartbeats 4000000 in
theorem R_L_X12_laysWays_11 (N : Nat) (k149 : Int → Int → Int → Hp → Option (Hp)) (hk149 : ∀ (x1 : Int) (x2 : Int) (x3 : Int) (h : Hp) (res : Hp), k149 x1 x2 x3 h = some res → Go M_X12_laysWays 3 149 [some (.inr 84), some (.inl x1), some (.inl x2), some (.inl x3), none, none, none] [] h (Qv res)) : ∀ (n : Nat) (x1 : Int) (x2 : Int) (x3 : Int) (x4 : Int) (h : Hp) (res : Hp), L_X12_laysWays_11 N k149 n x1 x2 x3 x4 h = some res → Go M_X12_laysWays 3 11 [some (.inr 84), some (.inl x1), some (.inl x2), some (.inl x3), some (.inl x4), none, none] [] h (Qv res)
  | 0, _, _, _, _, _, _, H => by cases H
  | n + 1, x1, x2, x3, x4, h, res, H => by
    have ih := R_L_X12_laysWays_11 N k149 hk149 n
    simp only [L_X12_laysWays_11] at H
    refine g_iload (T_X12_laysWays 7 _ _ _ rfl) rfl ?_
    refine g_bipush (T_X12_laysWays 8 _ _ _ rfl) (by decide) ?_
    refine g_icmp_ge (tgt := 149) (T_X12_laysWays 9 _ _ _ rfl) (by decide) (fun cc => ?_) (fun cc => ?_)
    · replace H := ite_p cc H
      refine g_weak [true, true, true, true, false, false, false] ?_
      exact hk149 _ _ _ _ _ H
    · replace H := ite_n cc H
      refine g_iload_n (T_X12_laysWays 10 _ _ _ rfl) rfl ?_
      refine g_iload_n (T_X12_laysWays 11 _ _ _ rfl) rfl ?_
      refine g_icmp_ne (tgt := 29) (T_X12_laysWays 12 _ _ _ rfl) (by decide) (fun cc => ?_) (fun cc => ?_)
      · replace H := ite_n cc H
        refine g_weak [true, true, true, true, true, false, false] ?_
        exact R_J_X12_laysWays_29 N (L_X12_laysWays_11 N k149 n) ih _ _ _ _ _ _ H
      · replace H := ite_p cc H
        refine g_iload (T_X12_laysWays 13 _ _ _ rfl) rfl ?_
        refine g_iload_n (T_X12_laysWays 14 _ _ _ rfl) rfl ?_
        refine g_icmp_eq (tgt := 40) (T_X12_laysWays 15 _ _ _ rfl) (by decide) (fun cc => ?_) (fun cc => ?_)
        · replace H := ite_p cc H
          refine g_iconst (T_X12_laysWays 22 _ _ _ rfl) ⟨by decide, by decide⟩ ?_
          refine g_goto (tgt := 45) (T_X12_laysWays 23 _ _ _ rfl) (by decide) ?_
          refine g_weak [true, true, true, true, true, false, false] ?_
          exact R_J_X12_laysWays_45 N (L_X12_laysWays_11 N k149 n) ih _ _ _ _ _ _ _ H
        · replace H := ite_n cc H
          refine g_weak [true, true, true, true, true, false, false] ?_
          exact R_J_X12_laysWays_29 N (L_X12_laysWays_11 N k149 n) ih _ _ _ _ _ _ H
def L_X12_laysWays_2 (N : Nat) : Nat → Int → Int → Int → Hp → Option (Hp)
  | 0, _, _, _, _ => none
  | n + 1, x1, x2, x3, h =>
    if 14 ≤ x3 then
      L_X12_laysWays_157 N  N 0 h
    else
    L_X12_laysWays_11 N (fun (v1 : Int) (v2 : Int) (v3 : Int) (h4 : Hp) =>
      bnd (w32 (v3 + 1)) fun y5 =>
      (L_X12_laysWays_2 N n) v1 v2 y5 h4) N x1 x2 x3 0 h
set_option maxRecDepth 100000 in
set_option maxHeartbeats 4000000 in
theorem R_L_X12_laysWays_2 (N : Nat) : ∀ (n : Nat) (x1 : Int) (x2 : Int) (x3 : Int) (h : Hp) (res : Hp), L_X12_laysWays_2 N n x1 x2 x3 h = some res → Go M_X12_laysWays 3 2 [some (.inr 84), some (.inl x1), some (.inl x2), some (.inl x3), none, none, none] [] h (Qv res)
  | 0, _, _, _, _, _, H => by cases H
  | n + 1, x1, x2, x3, h, res, H => by
    have ih := R_L_X12_laysWays_2 N n
    simp only [L_X12_laysWays_2] at H
    refine g_iload_n (T_X12_laysWays 2 _ _ _ rfl) rfl ?_
    refine g_bipush (T_X12_laysWays 3 _ _ _ rfl) (by decide) ?_
    refine g_icmp_ge (tgt := 155) (T_X12_laysWays 4 _ _ _ rfl) (by decide) (fun cc => ?_) (fun cc => ?_)
    · replace H := ite_p cc H
      refine g_iconst (T_X12_laysWays 82 _ _ _ rfl) ⟨by decide, by decide⟩ ?_
      refine g_istore_n (T_X12_laysWays 83 _ _ _ rfl) (by decide) ?_
      refine g_weak [true, false, false, true, false, false, false] ?_
      refine R_L_X12_laysWays_157 N   _ _ _ _ H
    · replace H := ite_n cc H
      refine g_iconst (T_X12_laysWays 5 _ _ _ rfl) ⟨by decide, by decide⟩ ?_
      refine g_istore (T_X12_laysWays 6 _ _ _ rfl) (by decide) ?_
      refine g_weak [true, true, true, true, true, false, false] ?_
      refine R_L_X12_laysWays_11 N _ (fun v1 v2 v3 h4 res H => ?_) _ _ _ _ _ _ _ H
      · refine g_iincB (T_X12_laysWays 80 _ _ _ rfl) rfl (by decide) H fun y5 H => ?_
        refine g_goto (tgt := 2) (T_X12_laysWays 81 _ _ _ rfl) (by decide) ?_
        refine g_weak [true, true, true, true, false, false, false] ?_
        exact ih _ _ _ _ _ H
def F_X12_laysWays (N : Nat) (x1 : Int) (x2 : Int) (h : Hp) : Option (Hp) :=
  L_X12_laysWays_2 N  N x1 x2 0 h
set_option maxRecDepth 100000 in
set_option maxHeartbeats 4000000 in
theorem R_X12_laysWays (N : Nat) (x1 : Int) (x2 : Int) (h : Hp) (res : Hp) (H : F_X12_laysWays N x1 x2 h = some res) : Runs M_X12_laysWays 3 [.inr 84, .inl x1, .inl x2] h (Qv res) := by
  refine Runs.of rfl (Nat.le_of_ble_eq_true rfl) ?_
  show Go M_X12_laysWays 3 0 [some (.inr 84), some (.inl x1), some (.inl x2), none, none, none, none] [] h (Qv res)
  unfold F_X12_laysWays at H
  refine g_iconst (T_X12_laysWays 0 _ _ _ rfl) ⟨by decide, by decide⟩ ?_
  refine g_istore_n (T_X12_laysWays 1 _ _ _ rfl) (by decide) ?_
  refine g_weak [true, true, true, true, false, false, false] ?_
  refine R_L_X12_laysWays_2 N   _ _ _ _ _ _ H
def F_X12_street (N : Nat) (x1 : Int) (x2 : Int) (x3 : Int) (x4 : Int) (h : Hp) : Option (Int × Hp) :=
  bd (F_X12_in N x1 0 13 h) fun y2 h1 =>
  if y2 = 0 then
    some (0, h1)
  else
  bd (F_X12_in N x2 0 99 h1) fun y4 h3 =>
  if y4 = 0 then
    some (0, h3)
  else
  bd (F_X12_in N x3 0 9 h3) fun y6 h5 =>
  if y6 = 0 then
    some (0, h5)
  else
  bd (F_X12_in N x4 0 99 h5) fun y8 h7 =>
  if y8 = 0 then
    some (0, h7)
  else
  bnd (hw h7 83 12 (ior (h7 83 12) (ishl 1 x1))) fun h9 =>
  grd (0 ≤ x1 ∧ x1 < 14) <|
  bnd (hw h9 87 x1.toNat x2) fun h10 =>
  grd (0 ≤ x1 ∧ x1 < 14) <|
  bnd (hw h10 88 x1.toNat x3) fun h11 =>
  grd (0 ≤ x1 ∧ x1 < 14) <|
  bnd (hw h11 89 x1.toNat x4) fun h12 =>
  bv (F_X12_laysWays N (-1) (-1) h12) fun h13 =>
  some (1, h13)
set_option maxRecDepth 100000 in
set_option maxHeartbeats 4000000 in
theorem R_X12_street (N : Nat) (x1 : Int) (x2 : Int) (x3 : Int) (x4 : Int) (h : Hp) (res : Int × Hp) (H : F_X12_street N x1 x2 x3 x4 h = some res) : Runs M_X12_street 4 [.inr 84, .inl x1, .inl x2, .inl x3, .inl x4] h (Qi res) := by
  refine Runs.of rfl (Nat.le_of_ble_eq_true rfl) ?_
  show Go M_X12_street 4 0 [some (.inr 84), some (.inl x1), some (.inl x2), some (.inl x3), some (.inl x4)] [] h (Qi res)
  unfold F_X12_street at H
  refine g_iload_n (T_X12_street 0 _ _ _ rfl) rfl ?_
  refine g_iconst (T_X12_street 1 _ _ _ rfl) ⟨by decide, by decide⟩ ?_
  refine g_bipush (T_X12_street 2 _ _ _ rfl) (by decide) ?_
  obtain ⟨y2, h1, hq, H⟩ := bd_some H
  refine g_callSi (M' := M_X12_in) (av := [.inl x1, .inl 0, .inl 13]) (st := []) (T_X12_street 3 _ _ _ rfl) ml_X12_155 cb_X12_in rfl (Nat.le_of_ble_eq_true rfl) (by omega) (R_X12_in N _ _ _ _ _ hq) ?_
  refine g_if_eq (tgt := 41) (T_X12_street 4 _ _ _ rfl) (by decide) (fun cc => ?_) (fun cc => ?_)
  · replace H := ite_p cc H
    refine g_iconst (T_X12_street 20 _ _ _ rfl) ⟨by decide, by decide⟩ ?_
    exact g_zret (T_X12_street 21 _ _ _ rfl) rfl (by decide) (qi_of H)
  · replace H := ite_n cc H
    refine g_iload_n (T_X12_street 5 _ _ _ rfl) rfl ?_
    refine g_iconst (T_X12_street 6 _ _ _ rfl) ⟨by decide, by decide⟩ ?_
    refine g_bipush (T_X12_street 7 _ _ _ rfl) (by decide) ?_
    obtain ⟨y4, h3, hq, H⟩ := bd_some H
    refine g_callSi (M' := M_X12_in) (av := [.inl x2, .inl 0, .inl 99]) (st := []) (T_X12_street 8 _ _ _ rfl) ml_X12_155 cb_X12_in rfl (Nat.le_of_ble_eq_true rfl) (by omega) (R_X12_in N _ _ _ _ _ hq) ?_
    refine g_if_eq (tgt := 41) (T_X12_street 9 _ _ _ rfl) (by decide) (fun cc => ?_) (fun cc => ?_)
    · replace H := ite_p cc H
      refine g_iconst (T_X12_street 20 _ _ _ rfl) ⟨by decide, by decide⟩ ?_
      exact g_zret (T_X12_street 21 _ _ _ rfl) rfl (by decide) (qi_of H)
    · replace H := ite_n cc H
      refine g_iload_n (T_X12_street 10 _ _ _ rfl) rfl ?_
      refine g_iconst (T_X12_street 11 _ _ _ rfl) ⟨by decide, by decide⟩ ?_
      refine g_bipush (T_X12_street 12 _ _ _ rfl) (by decide) ?_
      obtain ⟨y6, h5, hq, H⟩ := bd_some H
      refine g_callSi (M' := M_X12_in) (av := [.inl x3, .inl 0, .inl 9]) (st := []) (T_X12_street 13 _ _ _ rfl) ml_X12_155 cb_X12_in rfl (Nat.le_of_ble_eq_true rfl) (by omega) (R_X12_in N _ _ _ _ _ hq) ?_
      refine g_if_eq (tgt := 41) (T_X12_street 14 _ _ _ rfl) (by decide) (fun cc => ?_) (fun cc => ?_)
      · replace H := ite_p cc H
        refine g_iconst (T_X12_street 20 _ _ _ rfl) ⟨by decide, by decide⟩ ?_
        exact g_zret (T_X12_street 21 _ _ _ rfl) rfl (by decide) (qi_of H)
      · replace H := ite_n cc H
        refine g_iload (T_X12_street 15 _ _ _ rfl) rfl ?_
        refine g_iconst (T_X12_street 16 _ _ _ rfl) ⟨by decide, by decide⟩ ?_
        refine g_bipush (T_X12_street 17 _ _ _ rfl) (by decide) ?_
        obtain ⟨y8, h7, hq, H⟩ := bd_some H
        refine g_callSi (M' := M_X12_in) (av := [.inl x4, .inl 0, .inl 99]) (st := []) (T_X12_street 18 _ _ _ rfl) ml_X12_155 cb_X12_in rfl (Nat.le_of_ble_eq_true rfl) (by omega) (R_X12_in N _ _ _ _ _ hq) ?_
        refine g_if_ne (tgt := 43) (T_X12_street 19 _ _ _ rfl) (by decide) (fun cc => ?_) (fun cc => ?_)
        · replace H := ite_n cc H
          refine g_aload_n (T_X12_street 22 _ _ _ rfl) rfl ?_
          refine g_aload_n (T_X12_street 23 _ _ _ rfl) rfl ?_
          refine g_getI (c := 83) (T_X12_street 24 _ _ _ rfl) fl_X12_135 rfl (Or.inl rfl) ?_
          refine g_iconst (T_X12_street 25 _ _ _ rfl) ⟨by decide, by decide⟩ ?_
          refine g_iload_n (T_X12_street 26 _ _ _ rfl) rfl ?_
          refine g_ishl (T_X12_street 27 _ _ _ rfl) ?_
          refine g_ior (T_X12_street 28 _ _ _ rfl) ?_
          refine g_put (c := 83) (T_X12_street 29 _ _ _ rfl) fl_X12_135 rfl (Or.inl rfl) ?_
          refine g_bndH H fun h9 H => ?_
          refine g_aload_n (T_X12_street 30 _ _ _ rfl) rfl ?_
          refine g_getR (c := 83) (r := 88) (T_X12_street 31 _ _ _ rfl) fl_X12_19 rfl (nR rfl) rfl (by decide) ?_
          refine g_iload_n (T_X12_street 32 _ _ _ rfl) rfl ?_
          refine g_iload_n (T_X12_street 33 _ _ _ rfl) rfl ?_
          obtain ⟨hg, H⟩ := grd_some H
          refine g_iast (c := 87) (T_X12_street 34 _ _ _ rfl) rfl hg ?_
          refine g_bndH H fun h10 H => ?_
          refine g_aload_n (T_X12_street 35 _ _ _ rfl) rfl ?_
          refine g_getR (c := 83) (r := 89) (T_X12_street 36 _ _ _ rfl) fl_X12_22 rfl (nR rfl) rfl (by decide) ?_
          refine g_iload_n (T_X12_street 37 _ _ _ rfl) rfl ?_
          refine g_iload_n (T_X12_street 38 _ _ _ rfl) rfl ?_
          obtain ⟨hg, H⟩ := grd_some H
          refine g_iast (c := 88) (T_X12_street 39 _ _ _ rfl) rfl hg ?_
          refine g_bndH H fun h11 H => ?_
          refine g_aload_n (T_X12_street 40 _ _ _ rfl) rfl ?_
          refine g_getR (c := 83) (r := 90) (T_X12_street 41 _ _ _ rfl) fl_X12_25 rfl (nR rfl) rfl (by decide) ?_
          refine g_iload_n (T_X12_street 42 _ _ _ rfl) rfl ?_
          refine g_iload (T_X12_street 43 _ _ _ rfl) rfl ?_
          obtain ⟨hg, H⟩ := grd_some H
          refine g_iast (c := 89) (T_X12_street 44 _ _ _ rfl) rfl hg ?_
          refine g_bndH H fun h12 H => ?_
          refine g_aload_n (T_X12_street 45 _ _ _ rfl) rfl ?_
          refine g_iconst (T_X12_street 46 _ _ _ rfl) ⟨by decide, by decide⟩ ?_
          refine g_iconst (T_X12_street 47 _ _ _ rfl) ⟨by decide, by decide⟩ ?_
          obtain ⟨h13, hq, H⟩ := bv_some H
          refine g_callVv (M' := M_X12_laysWays) (c := 83) (av := [.inl (-1), .inl (-1)]) (st := []) (T_X12_street 48 _ _ _ rfl) ml_X12_131 cb_X12_laysWays rfl rfl (Nat.le_of_ble_eq_true rfl) (by omega) (R_X12_laysWays N _ _ _ _ hq) ?_
          refine g_iconst (T_X12_street 49 _ _ _ rfl) ⟨by decide, by decide⟩ ?_
          exact g_zret (T_X12_street 50 _ _ _ rfl) rfl (by decide) (qi_of H)
        · replace H := ite_p cc H
          refine g_iconst (T_X12_street 20 _ _ _ rfl) ⟨by decide, by decide⟩ ?_
          exact g_zret (T_X12_street 21 _ _ _ rfl) rfl (by decide) (qi_of H)
def F_X12_cart (N : Nat) (x1 : Int) (x2 : Int) (h : Hp) : Option (Int × Hp) :=
  bd (F_X12_in N x1 0 4 h) fun y2 h1 =>
  if y2 = 0 then
    some (0, h1)
  else
  bd (F_X12_in N x2 1 99 h1) fun y4 h3 =>
  if y4 = 0 then
    some (0, h3)
  else
  bnd (hw h3 83 13 (ior (h3 83 13) (ishl 1 x1))) fun h5 =>
  grd (0 ≤ x1 ∧ x1 < 5) <|
  bnd (hw h5 92 x1.toNat x2) fun h6 =>
  some (1, h6)
set_option maxRecDepth 100000 in
set_option maxHeartbeats 4000000 in
theorem R_X12_cart (N : Nat) (x1 : Int) (x2 : Int) (h : Hp) (res : Int × Hp) (H : F_X12_cart N x1 x2 h = some res) : Runs M_X12_cart 2 [.inr 84, .inl x1, .inl x2] h (Qi res) := by
  refine Runs.of rfl (Nat.le_of_ble_eq_true rfl) ?_
  show Go M_X12_cart 2 0 [some (.inr 84), some (.inl x1), some (.inl x2)] [] h (Qi res)
  unfold F_X12_cart at H
  refine g_iload_n (T_X12_cart 0 _ _ _ rfl) rfl ?_
  refine g_iconst (T_X12_cart 1 _ _ _ rfl) ⟨by decide, by decide⟩ ?_
  refine g_iconst (T_X12_cart 2 _ _ _ rfl) ⟨by decide, by decide⟩ ?_
  obtain ⟨y2, h1, hq, H⟩ := bd_some H
  refine g_callSi (M' := M_X12_in) (av := [.inl x1, .inl 0, .inl 4]) (st := []) (T_X12_cart 3 _ _ _ rfl) ml_X12_155 cb_X12_in rfl (Nat.le_of_ble_eq_true rfl) (by omega) (R_X12_in N _ _ _ _ _ hq) ?_
  refine g_if_eq (tgt := 19) (T_X12_cart 4 _ _ _ rfl) (by decide) (fun cc => ?_) (fun cc => ?_)
  · replace H := ite_p cc H
    refine g_iconst (T_X12_cart 10 _ _ _ rfl) ⟨by decide, by decide⟩ ?_
    exact g_zret (T_X12_cart 11 _ _ _ rfl) rfl (by decide) (qi_of H)
  · replace H := ite_n cc H
    refine g_iload_n (T_X12_cart 5 _ _ _ rfl) rfl ?_
    refine g_iconst (T_X12_cart 6 _ _ _ rfl) ⟨by decide, by decide⟩ ?_
    refine g_bipush (T_X12_cart 7 _ _ _ rfl) (by decide) ?_
    obtain ⟨y4, h3, hq, H⟩ := bd_some H
    refine g_callSi (M' := M_X12_in) (av := [.inl x2, .inl 1, .inl 99]) (st := []) (T_X12_cart 8 _ _ _ rfl) ml_X12_155 cb_X12_in rfl (Nat.le_of_ble_eq_true rfl) (by omega) (R_X12_in N _ _ _ _ _ hq) ?_
    refine g_if_ne (tgt := 21) (T_X12_cart 9 _ _ _ rfl) (by decide) (fun cc => ?_) (fun cc => ?_)
    · replace H := ite_n cc H
      refine g_aload_n (T_X12_cart 12 _ _ _ rfl) rfl ?_
      refine g_aload_n (T_X12_cart 13 _ _ _ rfl) rfl ?_
      refine g_getI (c := 83) (T_X12_cart 14 _ _ _ rfl) fl_X12_143 rfl (Or.inl rfl) ?_
      refine g_iconst (T_X12_cart 15 _ _ _ rfl) ⟨by decide, by decide⟩ ?_
      refine g_iload_n (T_X12_cart 16 _ _ _ rfl) rfl ?_
      refine g_ishl (T_X12_cart 17 _ _ _ rfl) ?_
      refine g_ior (T_X12_cart 18 _ _ _ rfl) ?_
      refine g_put (c := 83) (T_X12_cart 19 _ _ _ rfl) fl_X12_143 rfl (Or.inl rfl) ?_
      refine g_bndH H fun h5 H => ?_
      refine g_aload_n (T_X12_cart 20 _ _ _ rfl) rfl ?_
      refine g_getR (c := 83) (r := 93) (T_X12_cart 21 _ _ _ rfl) fl_X12_34 rfl (nR rfl) rfl (by decide) ?_
      refine g_iload_n (T_X12_cart 22 _ _ _ rfl) rfl ?_
      refine g_iload_n (T_X12_cart 23 _ _ _ rfl) rfl ?_
      obtain ⟨hg, H⟩ := grd_some H
      refine g_iast (c := 92) (T_X12_cart 24 _ _ _ rfl) rfl hg ?_
      refine g_bndH H fun h6 H => ?_
      refine g_iconst (T_X12_cart 25 _ _ _ rfl) ⟨by decide, by decide⟩ ?_
      exact g_zret (T_X12_cart 26 _ _ _ rfl) rfl (by decide) (qi_of H)
    · replace H := ite_p cc H
      refine g_iconst (T_X12_cart 10 _ _ _ rfl) ⟨by decide, by decide⟩ ?_
      exact g_zret (T_X12_cart 11 _ _ _ rfl) rfl (by decide) (qi_of H)
def F_X12_pour (N : Nat) (x1 : Int) (x2 : Int) (h : Hp) : Option (Int × Hp) :=
  bd (F_X12_isStreet N x1 h) fun y2 h1 =>
  if y2 = 0 then
    some ((-1), h1)
  else
  bd (F_X12_in N x2 0 999 h1) fun y4 h3 =>
  if y4 = 0 then
    some ((-1), h3)
  else
  grd (0 ≤ (w32 (0 + x1)) ∧ (w32 (0 + x1)) < 17) <|
  bd (F_X12_min N 999 (w32 ((h3 84 (w32 (0 + x1)).toNat) + x2)) h3) fun y6 h5 =>
  grd (0 ≤ (w32 (0 + x1)) ∧ (w32 (0 + x1)) < 17) <|
  bnd (hw h5 84 (w32 (0 + x1)).toNat y6) fun h7 =>
  grd (0 ≤ (w32 (0 + x1)) ∧ (w32 (0 + x1)) < 17) <|
  some ((h7 84 (w32 (0 + x1)).toNat), h7)
set_option maxRecDepth 100000 in
set_option maxHeartbeats 4000000 in
theorem R_X12_pour (N : Nat) (x1 : Int) (x2 : Int) (h : Hp) (res : Int × Hp) (H : F_X12_pour N x1 x2 h = some res) : Runs M_X12_pour 3 [.inr 84, .inl x1, .inl x2] h (Qi res) := by
  refine Runs.of rfl (Nat.le_of_ble_eq_true rfl) ?_
  show Go M_X12_pour 3 0 [some (.inr 84), some (.inl x1), some (.inl x2)] [] h (Qi res)
  unfold F_X12_pour at H
  refine g_aload_n (T_X12_pour 0 _ _ _ rfl) rfl ?_
  refine g_iload_n (T_X12_pour 1 _ _ _ rfl) rfl ?_
  obtain ⟨y2, h1, hq, H⟩ := bd_some H
  refine g_callVi (M' := M_X12_isStreet) (c := 83) (av := [.inl x1]) (st := []) (T_X12_pour 2 _ _ _ rfl) ml_X12_146 cb_X12_isStreet rfl rfl (Nat.le_of_ble_eq_true rfl) (by omega) (R_X12_isStreet N _ _ _ hq) ?_
  refine g_if_eq (tgt := 19) (T_X12_pour 3 _ _ _ rfl) (by decide) (fun cc => ?_) (fun cc => ?_)
  · replace H := ite_p cc H
    refine g_iconst (T_X12_pour 9 _ _ _ rfl) ⟨by decide, by decide⟩ ?_
    exact g_iret (T_X12_pour 10 _ _ _ rfl) rfl (qi_of H)
  · replace H := ite_n cc H
    refine g_iload_n (T_X12_pour 4 _ _ _ rfl) rfl ?_
    refine g_iconst (T_X12_pour 5 _ _ _ rfl) ⟨by decide, by decide⟩ ?_
    refine g_sipush (T_X12_pour 6 _ _ _ rfl) (by decide) ?_
    obtain ⟨y4, h3, hq, H⟩ := bd_some H
    refine g_callSi (M' := M_X12_in) (av := [.inl x2, .inl 0, .inl 999]) (st := []) (T_X12_pour 7 _ _ _ rfl) ml_X12_155 cb_X12_in rfl (Nat.le_of_ble_eq_true rfl) (by omega) (R_X12_in N _ _ _ _ _ hq) ?_
    refine g_if_ne (tgt := 21) (T_X12_pour 8 _ _ _ rfl) (by decide) (fun cc => ?_) (fun cc => ?_)
    · replace H := ite_n cc H
      refine g_aload_n (T_X12_pour 11 _ _ _ rfl) rfl ?_
      refine g_getR (c := 83) (r := 85) (T_X12_pour 12 _ _ _ rfl) fl_X12_7 rfl (nR rfl) rfl (by decide) ?_
      refine g_iconst (T_X12_pour 13 _ _ _ rfl) ⟨by decide, by decide⟩ ?_
      refine g_iload_n (T_X12_pour 14 _ _ _ rfl) rfl ?_
      refine g_iadd (T_X12_pour 15 _ _ _ rfl) ?_
      refine g_sipush (T_X12_pour 16 _ _ _ rfl) (by decide) ?_
      refine g_aload_n (T_X12_pour 17 _ _ _ rfl) rfl ?_
      refine g_getR (c := 83) (r := 85) (T_X12_pour 18 _ _ _ rfl) fl_X12_7 rfl (nR rfl) rfl (by decide) ?_
      refine g_iconst (T_X12_pour 19 _ _ _ rfl) ⟨by decide, by decide⟩ ?_
      refine g_iload_n (T_X12_pour 20 _ _ _ rfl) rfl ?_
      refine g_iadd (T_X12_pour 21 _ _ _ rfl) ?_
      obtain ⟨hg, H⟩ := grd_some H
      refine g_iald (c := 84) (T_X12_pour 22 _ _ _ rfl) rfl hg ?_
      refine g_iload_n (T_X12_pour 23 _ _ _ rfl) rfl ?_
      refine g_iadd (T_X12_pour 24 _ _ _ rfl) ?_
      obtain ⟨y6, h5, hq, H⟩ := bd_some H
      refine g_callSi (M' := M_X12_min) (av := [.inl 999, .inl (w32 ((h3 84 (w32 (0 + x1)).toNat) + x2))]) (st := [.inl (w32 (0 + x1)), .inr 85]) (T_X12_pour 25 _ _ _ rfl) ml_X12_151 cb_X12_min rfl (Nat.le_of_ble_eq_true rfl) (by omega) (R_X12_min N _ _ _ _ hq) ?_
      obtain ⟨hg, H⟩ := grd_some H
      refine g_iast (c := 84) (T_X12_pour 26 _ _ _ rfl) rfl hg ?_
      refine g_bndH H fun h7 H => ?_
      refine g_aload_n (T_X12_pour 27 _ _ _ rfl) rfl ?_
      refine g_getR (c := 83) (r := 85) (T_X12_pour 28 _ _ _ rfl) fl_X12_7 rfl (nR rfl) rfl (by decide) ?_
      refine g_iconst (T_X12_pour 29 _ _ _ rfl) ⟨by decide, by decide⟩ ?_
      refine g_iload_n (T_X12_pour 30 _ _ _ rfl) rfl ?_
      refine g_iadd (T_X12_pour 31 _ _ _ rfl) ?_
      obtain ⟨hg, H⟩ := grd_some H
      refine g_iald (c := 84) (T_X12_pour 32 _ _ _ rfl) rfl hg ?_
      exact g_iret (T_X12_pour 33 _ _ _ rfl) rfl (qi_of H)
    · replace H := ite_p cc H
      refine g_iconst (T_X12_pour 9 _ _ _ rfl) ⟨by decide, by decide⟩ ?_
      exact g_iret (T_X12_pour 10 _ _ _ rfl) rfl (qi_of H)
def L_X12_types_2 (N : Nat) : Nat → Int → Int → Hp → Option (Hp)
  | 0, _, _, _ => none
  | n + 1, x1, x2, h =>
    if x2 < 0 then
      some h
    else
    grd (0 ≤ (h 83 15) ∧ (h 83 15) < 260) <|
    bnd (hw h 96 (h 83 15).toNat (i2b (i2b (ishr x1 (w32 (8 * x2)))))) fun h1 =>
    bnd (hw h1 83 15 (w32 ((h1 83 15) + 1))) fun h2 =>
    bnd (w32 (x2 + (-1))) fun y3 =>
    (L_X12_types_2 N n) x1 y3 h2
set_option maxRecDepth 100000 in
set_option maxHeartbeats 4000000 in
theorem R_L_X12_types_2 (N : Nat) : ∀ (n : Nat) (x1 : Int) (x2 : Int) (h : Hp) (res : Hp), L_X12_types_2 N n x1 x2 h = some res → Go M_X12_types 1 2 [some (.inr 84), some (.inl x1), some (.inl x2)] [] h (Qv res)
  | 0, _, _, _, _, H => by cases H
  | n + 1, x1, x2, h, res, H => by
    have ih := R_L_X12_types_2 N n
    simp only [L_X12_types_2] at H
    refine g_iload_n (T_X12_types 2 _ _ _ rfl) rfl ?_
    refine g_if_lt (tgt := 38) (T_X12_types 3 _ _ _ rfl) (by decide) (fun cc => ?_) (fun cc => ?_)
    · replace H := ite_p cc H
      exact g_vret (T_X12_types 23 _ _ _ rfl) rfl (qv_of H)
    · replace H := ite_n cc H
      refine g_aload_n (T_X12_types 4 _ _ _ rfl) rfl ?_
      refine g_getR (c := 83) (r := 97) (T_X12_types 5 _ _ _ rfl) fl_X12_46 rfl (nR rfl) rfl (by decide) ?_
      refine g_aload_n (T_X12_types 6 _ _ _ rfl) rfl ?_
      refine g_getI (c := 83) (T_X12_types 7 _ _ _ rfl) fl_X12_159 rfl (Or.inl rfl) ?_
      refine g_iload_n (T_X12_types 8 _ _ _ rfl) rfl ?_
      refine g_bipush (T_X12_types 9 _ _ _ rfl) (by decide) ?_
      refine g_iload_n (T_X12_types 10 _ _ _ rfl) rfl ?_
      refine g_imul (T_X12_types 11 _ _ _ rfl) ?_
      refine g_ishr (T_X12_types 12 _ _ _ rfl) ?_
      refine g_i2b (T_X12_types 13 _ _ _ rfl) ?_
      obtain ⟨hg, H⟩ := grd_some H
      refine g_bast (c := 96) (T_X12_types 14 _ _ _ rfl) rfl hg ?_
      refine g_bndH H fun h1 H => ?_
      refine g_aload_n (T_X12_types 15 _ _ _ rfl) rfl ?_
      refine g_aload_n (T_X12_types 16 _ _ _ rfl) rfl ?_
      refine g_getI (c := 83) (T_X12_types 17 _ _ _ rfl) fl_X12_159 rfl (Or.inl rfl) ?_
      refine g_iconst (T_X12_types 18 _ _ _ rfl) ⟨by decide, by decide⟩ ?_
      refine g_iadd (T_X12_types 19 _ _ _ rfl) ?_
      refine g_put (c := 83) (T_X12_types 20 _ _ _ rfl) fl_X12_159 rfl (Or.inl rfl) ?_
      refine g_bndH H fun h2 H => ?_
      refine g_iincB (T_X12_types 21 _ _ _ rfl) rfl (by decide) H fun y3 H => ?_
      refine g_goto (tgt := 2) (T_X12_types 22 _ _ _ rfl) (by decide) ?_
      refine g_weak [true, true, true] ?_
      exact ih _ _ _ _ H
def F_X12_types (N : Nat) (x1 : Int) (h : Hp) : Option (Hp) :=
  L_X12_types_2 N  N x1 3 h
set_option maxRecDepth 100000 in
set_option maxHeartbeats 4000000 in
theorem R_X12_types (N : Nat) (x1 : Int) (h : Hp) (res : Hp) (H : F_X12_types N x1 h = some res) : Runs M_X12_types 1 [.inr 84, .inl x1] h (Qv res) := by
  refine Runs.of rfl (Nat.le_of_ble_eq_true rfl) ?_
  show Go M_X12_types 1 0 [some (.inr 84), some (.inl x1), none] [] h (Qv res)
  unfold F_X12_types at H
  refine g_iconst (T_X12_types 0 _ _ _ rfl) ⟨by decide, by decide⟩ ?_
  refine g_istore_n (T_X12_types 1 _ _ _ rfl) (by decide) ?_
  refine g_weak [true, true, true] ?_
  refine R_L_X12_types_2 N   _ _ _ _ _ H
def F_X12_feed (N : Nat) (x1 : Int) (x2 : Int) (x3 : Int) (x4 : Int) (x5 : Int) (h : Hp) : Option (Int × Hp) :=
  if (w32 ((h 83 15) + 20)) ≤ 260 then
    bv (F_X12_types N x1 h) fun h1 =>
    bv (F_X12_types N x2 h1) fun h2 =>
    bv (F_X12_types N x3 h2) fun h3 =>
    bv (F_X12_types N x4 h3) fun h4 =>
    bv (F_X12_types N x5 h4) fun h5 =>
    some ((h5 83 15), h5)
  else
  some ((-1), h)
set_option maxRecDepth 100000 in
set_option maxHeartbeats 4000000 in
theorem R_X12_feed (N : Nat) (x1 : Int) (x2 : Int) (x3 : Int) (x4 : Int) (x5 : Int) (h : Hp) (res : Int × Hp) (H : F_X12_feed N x1 x2 x3 x4 x5 h = some res) : Runs M_X12_feed 2 [.inr 84, .inl x1, .inl x2, .inl x3, .inl x4, .inl x5] h (Qi res) := by
  refine Runs.of rfl (Nat.le_of_ble_eq_true rfl) ?_
  show Go M_X12_feed 2 0 [some (.inr 84), some (.inl x1), some (.inl x2), some (.inl x3), some (.inl x4), some (.inl x5)] [] h (Qi res)
  unfold F_X12_feed at H
  refine g_aload_n (T_X12_feed 0 _ _ _ rfl) rfl ?_
  refine g_getI (c := 83) (T_X12_feed 1 _ _ _ rfl) fl_X12_159 rfl (Or.inl rfl) ?_
  refine g_bipush (T_X12_feed 2 _ _ _ rfl) (by decide) ?_
  refine g_iadd (T_X12_feed 3 _ _ _ rfl) ?_
  refine g_sipush (T_X12_feed 4 _ _ _ rfl) (by decide) ?_
  refine g_icmp_le (tgt := 15) (T_X12_feed 5 _ _ _ rfl) (by decide) (fun cc => ?_) (fun cc => ?_)
  · replace H := ite_p cc H
    refine g_aload_n (T_X12_feed 8 _ _ _ rfl) rfl ?_
    refine g_iload_n (T_X12_feed 9 _ _ _ rfl) rfl ?_
    obtain ⟨h1, hq, H⟩ := bv_some H
    refine g_callVv (M' := M_X12_types) (c := 83) (av := [.inl x1]) (st := []) (T_X12_feed 10 _ _ _ rfl) ml_X12_162 cb_X12_types rfl rfl (Nat.le_of_ble_eq_true rfl) (by omega) (R_X12_types N _ _ _ hq) ?_
    refine g_aload_n (T_X12_feed 11 _ _ _ rfl) rfl ?_
    refine g_iload_n (T_X12_feed 12 _ _ _ rfl) rfl ?_
    obtain ⟨h2, hq, H⟩ := bv_some H
    refine g_callVv (M' := M_X12_types) (c := 83) (av := [.inl x2]) (st := []) (T_X12_feed 13 _ _ _ rfl) ml_X12_162 cb_X12_types rfl rfl (Nat.le_of_ble_eq_true rfl) (by omega) (R_X12_types N _ _ _ hq) ?_
    refine g_aload_n (T_X12_feed 14 _ _ _ rfl) rfl ?_
    refine g_iload_n (T_X12_feed 15 _ _ _ rfl) rfl ?_
    obtain ⟨h3, hq, H⟩ := bv_some H
    refine g_callVv (M' := M_X12_types) (c := 83) (av := [.inl x3]) (st := []) (T_X12_feed 16 _ _ _ rfl) ml_X12_162 cb_X12_types rfl rfl (Nat.le_of_ble_eq_true rfl) (by omega) (R_X12_types N _ _ _ hq) ?_
    refine g_aload_n (T_X12_feed 17 _ _ _ rfl) rfl ?_
    refine g_iload (T_X12_feed 18 _ _ _ rfl) rfl ?_
    obtain ⟨h4, hq, H⟩ := bv_some H
    refine g_callVv (M' := M_X12_types) (c := 83) (av := [.inl x4]) (st := []) (T_X12_feed 19 _ _ _ rfl) ml_X12_162 cb_X12_types rfl rfl (Nat.le_of_ble_eq_true rfl) (by omega) (R_X12_types N _ _ _ hq) ?_
    refine g_aload_n (T_X12_feed 20 _ _ _ rfl) rfl ?_
    refine g_iload (T_X12_feed 21 _ _ _ rfl) rfl ?_
    obtain ⟨h5, hq, H⟩ := bv_some H
    refine g_callVv (M' := M_X12_types) (c := 83) (av := [.inl x5]) (st := []) (T_X12_feed 22 _ _ _ rfl) ml_X12_162 cb_X12_types rfl rfl (Nat.le_of_ble_eq_true rfl) (by omega) (R_X12_types N _ _ _ hq) ?_
    refine g_aload_n (T_X12_feed 23 _ _ _ rfl) rfl ?_
    refine g_getI (c := 83) (T_X12_feed 24 _ _ _ rfl) fl_X12_159 rfl (Or.inl rfl) ?_
    exact g_iret (T_X12_feed 25 _ _ _ rfl) rfl (qi_of H)
  · replace H := ite_n cc H
    refine g_iconst (T_X12_feed 6 _ _ _ rfl) ⟨by decide, by decide⟩ ?_
    exact g_iret (T_X12_feed 7 _ _ _ rfl) rfl (qi_of H)
def F_X12_here (N : Nat) (h : Hp) : Option (Int × Hp) :=
  if (h 83 17) ≤ (h 83 16) then
    some ((-1), h)
  else
  grd (0 ≤ (h 83 16) ∧ (h 83 16) < 260) <|
  some ((iand (h 96 (h 83 16).toNat) 255), h)
set_option maxRecDepth 100000 in
set_option maxHeartbeats 4000000 in
theorem R_X12_here (N : Nat) (h : Hp) (res : Int × Hp) (H : F_X12_here N h = some res) : Runs M_X12_here 1 [.inr 84] h (Qi res) := by
  refine Runs.of rfl (Nat.le_of_ble_eq_true rfl) ?_
  show Go M_X12_here 1 0 [some (.inr 84)] [] h (Qi res)
  unfold F_X12_here at H
  refine g_aload_n (T_X12_here 0 _ _ _ rfl) rfl ?_
  refine g_getI (c := 83) (T_X12_here 1 _ _ _ rfl) fl_X12_166 rfl (Or.inl rfl) ?_
  refine g_aload_n (T_X12_here 2 _ _ _ rfl) rfl ?_
  refine g_getI (c := 83) (T_X12_here 3 _ _ _ rfl) fl_X12_169 rfl (Or.inl rfl) ?_
  refine g_icmp_ge (tgt := 27) (T_X12_here 4 _ _ _ rfl) (by decide) (fun cc => ?_) (fun cc => ?_)
  · replace H := ite_p cc H
    refine g_iconst (T_X12_here 13 _ _ _ rfl) ⟨by decide, by decide⟩ ?_
    exact g_iret (T_X12_here 14 _ _ _ rfl) rfl (qi_of H)
  · replace H := ite_n cc H
    refine g_aload_n (T_X12_here 5 _ _ _ rfl) rfl ?_
    refine g_getR (c := 83) (r := 97) (T_X12_here 6 _ _ _ rfl) fl_X12_46 rfl (nR rfl) rfl (by decide) ?_
    refine g_aload_n (T_X12_here 7 _ _ _ rfl) rfl ?_
    refine g_getI (c := 83) (T_X12_here 8 _ _ _ rfl) fl_X12_166 rfl (Or.inl rfl) ?_
    obtain ⟨hg, H⟩ := grd_some H
    refine g_bald (c := 96) (T_X12_here 9 _ _ _ rfl) rfl hg ?_
    refine g_sipush (T_X12_here 10 _ _ _ rfl) (by decide) ?_
    refine g_iand (T_X12_here 11 _ _ _ rfl) ?_
    refine g_goto (tgt := 28) (T_X12_here 12 _ _ _ rfl) (by decide) ?_
    exact g_iret (T_X12_here 14 _ _ _ rfl) rfl (qi_of H)
def F_X12_isClause (N : Nat) (x0 : Int) (h : Hp) : Option (Int × Hp) :=
  if x0 = 119 then
    some (1, h)
  else
  if x0 = 99 then
    some (1, h)
  else
  if x0 = 115 then
    some (1, h)
  else
  if x0 = 117 then
    some (1, h)
  else
  some (0, h)
set_option maxRecDepth 100000 in
set_option maxHeartbeats 4000000 in
theorem R_X12_isClause (N : Nat) (x0 : Int) (h : Hp) (res : Int × Hp) (H : F_X12_isClause N x0 h = some res) : Runs M_X12_isClause 1 [.inl x0] h (Qi res) := by
  refine Runs.of rfl (Nat.le_of_ble_eq_true rfl) ?_
  show Go M_X12_isClause 1 0 [some (.inl x0)] [] h (Qi res)
  unfold F_X12_isClause at H
  refine g_iload_n (T_X12_isClause 0 _ _ _ rfl) rfl ?_
  refine g_bipush (T_X12_isClause 1 _ _ _ rfl) (by decide) ?_
  refine g_icmp_eq (tgt := 24) (T_X12_isClause 2 _ _ _ rfl) (by decide) (fun cc => ?_) (fun cc => ?_)
  · replace H := ite_p cc H
    refine g_iconst (T_X12_isClause 12 _ _ _ rfl) ⟨by decide, by decide⟩ ?_
    refine g_goto (tgt := 29) (T_X12_isClause 13 _ _ _ rfl) (by decide) ?_
    exact g_zret (T_X12_isClause 15 _ _ _ rfl) rfl (by decide) (qi_of H)
  · replace H := ite_n cc H
    refine g_iload_n (T_X12_isClause 3 _ _ _ rfl) rfl ?_
    refine g_bipush (T_X12_isClause 4 _ _ _ rfl) (by decide) ?_
    refine g_icmp_eq (tgt := 24) (T_X12_isClause 5 _ _ _ rfl) (by decide) (fun cc => ?_) (fun cc => ?_)
    · replace H := ite_p cc H
      refine g_iconst (T_X12_isClause 12 _ _ _ rfl) ⟨by decide, by decide⟩ ?_
      refine g_goto (tgt := 29) (T_X12_isClause 13 _ _ _ rfl) (by decide) ?_
      exact g_zret (T_X12_isClause 15 _ _ _ rfl) rfl (by decide) (qi_of H)
    · replace H := ite_n cc H
      refine g_iload_n (T_X12_isClause 6 _ _ _ rfl) rfl ?_
      refine g_bipush (T_X12_isClause 7 _ _ _ rfl) (by decide) ?_
      refine g_icmp_eq (tgt := 24) (T_X12_isClause 8 _ _ _ rfl) (by decide) (fun cc => ?_) (fun cc => ?_)
      · replace H := ite_p cc H
        refine g_iconst (T_X12_isClause 12 _ _ _ rfl) ⟨by decide, by decide⟩ ?_
        refine g_goto (tgt := 29) (T_X12_isClause 13 _ _ _ rfl) (by decide) ?_
        exact g_zret (T_X12_isClause 15 _ _ _ rfl) rfl (by decide) (qi_of H)
      · replace H := ite_n cc H
        refine g_iload_n (T_X12_isClause 9 _ _ _ rfl) rfl ?_
        refine g_bipush (T_X12_isClause 10 _ _ _ rfl) (by decide) ?_
        refine g_icmp_ne (tgt := 28) (T_X12_isClause 11 _ _ _ rfl) (by decide) (fun cc => ?_) (fun cc => ?_)
        · replace H := ite_n cc H
          refine g_iconst (T_X12_isClause 14 _ _ _ rfl) ⟨by decide, by decide⟩ ?_
          exact g_zret (T_X12_isClause 15 _ _ _ rfl) rfl (by decide) (qi_of H)
        · replace H := ite_p cc H
          refine g_iconst (T_X12_isClause 12 _ _ _ rfl) ⟨by decide, by decide⟩ ?_
          refine g_goto (tgt := 29) (T_X12_isClause 13 _ _ _ rfl) (by decide) ?_
          exact g_zret (T_X12_isClause 15 _ _ _ rfl) rfl (by decide) (qi_of H)
def F_X12_isDigit (N : Nat) (h : Hp) : Option (Int × Hp) :=
  bd (F_X12_here N h) fun y2 h1 =>
  if y2 < 48 then
    some (0, h1)
  else
  bd (F_X12_here N h1) fun y4 h3 =>
  if 57 < y4 then
    some (0, h3)
  else
  some (1, h3)
set_option maxRecDepth 100000 in
set_option maxHeartbeats 4000000 in
theorem R_X12_isDigit (N : Nat) (h : Hp) (res : Int × Hp) (H : F_X12_isDigit N h = some res) : Runs M_X12_isDigit 2 [.inr 84] h (Qi res) := by
  refine Runs.of rfl (Nat.le_of_ble_eq_true rfl) ?_
  show Go M_X12_isDigit 2 0 [some (.inr 84)] [] h (Qi res)
  unfold F_X12_isDigit at H
  refine g_aload_n (T_X12_isDigit 0 _ _ _ rfl) rfl ?_
  obtain ⟨y2, h1, hq, H⟩ := bd_some H
  refine g_callVi (M' := M_X12_here) (c := 83) (av := []) (st := []) (T_X12_isDigit 1 _ _ _ rfl) ml_X12_172 cb_X12_here rfl rfl (Nat.le_of_ble_eq_true rfl) (by omega) (R_X12_here N _ _ hq) ?_
  refine g_bipush (T_X12_isDigit 2 _ _ _ rfl) (by decide) ?_
  refine g_icmp_lt (tgt := 22) (T_X12_isDigit 3 _ _ _ rfl) (by decide) (fun cc => ?_) (fun cc => ?_)
  · replace H := ite_p cc H
    refine g_iconst (T_X12_isDigit 10 _ _ _ rfl) ⟨by decide, by decide⟩ ?_
    exact g_zret (T_X12_isDigit 11 _ _ _ rfl) rfl (by decide) (qi_of H)
  · replace H := ite_n cc H
    refine g_aload_n (T_X12_isDigit 4 _ _ _ rfl) rfl ?_
    obtain ⟨y4, h3, hq, H⟩ := bd_some H
    refine g_callVi (M' := M_X12_here) (c := 83) (av := []) (st := []) (T_X12_isDigit 5 _ _ _ rfl) ml_X12_172 cb_X12_here rfl rfl (Nat.le_of_ble_eq_true rfl) (by omega) (R_X12_here N _ _ hq) ?_
    refine g_bipush (T_X12_isDigit 6 _ _ _ rfl) (by decide) ?_
    refine g_icmp_gt (tgt := 22) (T_X12_isDigit 7 _ _ _ rfl) (by decide) (fun cc => ?_) (fun cc => ?_)
    · replace H := ite_p cc H
      refine g_iconst (T_X12_isDigit 10 _ _ _ rfl) ⟨by decide, by decide⟩ ?_
      exact g_zret (T_X12_isDigit 11 _ _ _ rfl) rfl (by decide) (qi_of H)
    · replace H := ite_n cc H
      refine g_iconst (T_X12_isDigit 8 _ _ _ rfl) ⟨by decide, by decide⟩ ?_
      refine g_goto (tgt := 23) (T_X12_isDigit 9 _ _ _ rfl) (by decide) ?_
      exact g_zret (T_X12_isDigit 11 _ _ _ rfl) rfl (by decide) (qi_of H)
def F_X12_factOf (N : Nat) (x0 : Int) (h : Hp) : Option (Int × Hp) :=
  if x0 = 100 then
    some (3, h)
  else if x0 = 101 then
    some ((-1), h)
  else if x0 = 102 then
    some ((-1), h)
  else if x0 = 103 then
    some (4, h)
  else if x0 = 104 then
    some (1, h)
  else if x0 = 105 then
    some (0, h)
  else if x0 = 106 then
    some ((-1), h)
  else if x0 = 107 then
    some (7, h)
  else if x0 = 108 then
    some (2, h)
  else if x0 = 109 then
    some ((-1), h)
  else if x0 = 110 then
    some (6, h)
  else if x0 = 111 then
    some ((-1), h)
  else if x0 = 112 then
    some ((-1), h)
  else if x0 = 113 then
    some ((-1), h)
  else if x0 = 114 then
    some (5, h)
  else 
  some ((-1), h)
set_option maxRecDepth 100000 in
set_option maxHeartbeats 4000000 in
theorem R_X12_factOf (N : Nat) (x0 : Int) (h : Hp) (res : Int × Hp) (H : F_X12_factOf N x0 h = some res) : Runs M_X12_factOf 1 [.inl x0] h (Qi res) := by
  refine Runs.of rfl (Nat.le_of_ble_eq_true rfl) ?_
  show Go M_X12_factOf 1 0 [some (.inl x0)] [] h (Qi res)
  unfold F_X12_factOf at H
  refine g_iload_n (T_X12_factOf 0 _ _ _ rfl) rfl ?_
  by_cases cc0 : x0 = 100
  · replace H := ite_p cc0 H
    refine g_tswIn (tgt := 82) (T_X12_factOf 1 _ _ _ rfl) (by rw [cc0]; decide) (by rw [cc0]; decide) (by first | (rw [cc0]; done) | (rw [cc0]; rfl)) (by decide) ?_
    refine g_iconst (T_X12_factOf 8 _ _ _ rfl) ⟨by decide, by decide⟩ ?_
    exact g_iret (T_X12_factOf 9 _ _ _ rfl) rfl (qi_of H)
  replace H := ite_n cc0 H
  by_cases cc1 : x0 = 101
  · replace H := ite_p cc1 H
    refine g_tswIn (tgt := 94) (T_X12_factOf 1 _ _ _ rfl) (by rw [cc1]; decide) (by rw [cc1]; decide) (by first | (rw [cc1]; done) | (rw [cc1]; rfl)) (by decide) ?_
    refine g_iconst (T_X12_factOf 18 _ _ _ rfl) ⟨by decide, by decide⟩ ?_
    exact g_iret (T_X12_factOf 19 _ _ _ rfl) rfl (qi_of H)
  replace H := ite_n cc1 H
  by_cases cc2 : x0 = 102
  · replace H := ite_p cc2 H
    refine g_tswIn (tgt := 94) (T_X12_factOf 1 _ _ _ rfl) (by rw [cc2]; decide) (by rw [cc2]; decide) (by first | (rw [cc2]; done) | (rw [cc2]; rfl)) (by decide) ?_
    refine g_iconst (T_X12_factOf 18 _ _ _ rfl) ⟨by decide, by decide⟩ ?_
    exact g_iret (T_X12_factOf 19 _ _ _ rfl) rfl (qi_of H)
  replace H := ite_n cc2 H
  by_cases cc3 : x0 = 103
  · replace H := ite_p cc3 H
    refine g_tswIn (tgt := 84) (T_X12_factOf 1 _ _ _ rfl) (by rw [cc3]; decide) (by rw [cc3]; decide) (by first | (rw [cc3]; done) | (rw [cc3]; rfl)) (by decide) ?_
    refine g_iconst (T_X12_factOf 10 _ _ _ rfl) ⟨by decide, by decide⟩ ?_
    exact g_iret (T_X12_factOf 11 _ _ _ rfl) rfl (qi_of H)
  replace H := ite_n cc3 H
  by_cases cc4 : x0 = 104
  · replace H := ite_p cc4 H
    refine g_tswIn (tgt := 78) (T_X12_factOf 1 _ _ _ rfl) (by rw [cc4]; decide) (by rw [cc4]; decide) (by first | (rw [cc4]; done) | (rw [cc4]; rfl)) (by decide) ?_
    refine g_iconst (T_X12_factOf 4 _ _ _ rfl) ⟨by decide, by decide⟩ ?_
    exact g_iret (T_X12_factOf 5 _ _ _ rfl) rfl (qi_of H)
  replace H := ite_n cc4 H
  by_cases cc5 : x0 = 105
  · replace H := ite_p cc5 H
    refine g_tswIn (tgt := 76) (T_X12_factOf 1 _ _ _ rfl) (by rw [cc5]; decide) (by rw [cc5]; decide) (by first | (rw [cc5]; done) | (rw [cc5]; rfl)) (by decide) ?_
    refine g_iconst (T_X12_factOf 2 _ _ _ rfl) ⟨by decide, by decide⟩ ?_
    exact g_iret (T_X12_factOf 3 _ _ _ rfl) rfl (qi_of H)
  replace H := ite_n cc5 H
  by_cases cc6 : x0 = 106
  · replace H := ite_p cc6 H
    refine g_tswIn (tgt := 94) (T_X12_factOf 1 _ _ _ rfl) (by rw [cc6]; decide) (by rw [cc6]; decide) (by first | (rw [cc6]; done) | (rw [cc6]; rfl)) (by decide) ?_
    refine g_iconst (T_X12_factOf 18 _ _ _ rfl) ⟨by decide, by decide⟩ ?_
    exact g_iret (T_X12_factOf 19 _ _ _ rfl) rfl (qi_of H)
  replace H := ite_n cc6 H
  by_cases cc7 : x0 = 107
  · replace H := ite_p cc7 H
    refine g_tswIn (tgt := 91) (T_X12_factOf 1 _ _ _ rfl) (by rw [cc7]; decide) (by rw [cc7]; decide) (by first | (rw [cc7]; done) | (rw [cc7]; rfl)) (by decide) ?_
    refine g_bipush (T_X12_factOf 16 _ _ _ rfl) (by decide) ?_
    exact g_iret (T_X12_factOf 17 _ _ _ rfl) rfl (qi_of H)
  replace H := ite_n cc7 H
  by_cases cc8 : x0 = 108
  · replace H := ite_p cc8 H
    refine g_tswIn (tgt := 80) (T_X12_factOf 1 _ _ _ rfl) (by rw [cc8]; decide) (by rw [cc8]; decide) (by first | (rw [cc8]; done) | (rw [cc8]; rfl)) (by decide) ?_
    refine g_iconst (T_X12_factOf 6 _ _ _ rfl) ⟨by decide, by decide⟩ ?_
    exact g_iret (T_X12_factOf 7 _ _ _ rfl) rfl (qi_of H)
  replace H := ite_n cc8 H
  by_cases cc9 : x0 = 109
  · replace H := ite_p cc9 H
    refine g_tswIn (tgt := 94) (T_X12_factOf 1 _ _ _ rfl) (by rw [cc9]; decide) (by rw [cc9]; decide) (by first | (rw [cc9]; done) | (rw [cc9]; rfl)) (by decide) ?_
    refine g_iconst (T_X12_factOf 18 _ _ _ rfl) ⟨by decide, by decide⟩ ?_
    exact g_iret (T_X12_factOf 19 _ _ _ rfl) rfl (qi_of H)
  replace H := ite_n cc9 H
  by_cases cc10 : x0 = 110
  · replace H := ite_p cc10 H
    refine g_tswIn (tgt := 88) (T_X12_factOf 1 _ _ _ rfl) (by rw [cc10]; decide) (by rw [cc10]; decide) (by first | (rw [cc10]; done) | (rw [cc10]; rfl)) (by decide) ?_
    refine g_bipush (T_X12_factOf 14 _ _ _ rfl) (by decide) ?_
    exact g_iret (T_X12_factOf 15 _ _ _ rfl) rfl (qi_of H)
  replace H := ite_n cc10 H
  by_cases cc11 : x0 = 111
  · replace H := ite_p cc11 H
    refine g_tswIn (tgt := 94) (T_X12_factOf 1 _ _ _ rfl) (by rw [cc11]; decide) (by rw [cc11]; decide) (by first | (rw [cc11]; done) | (rw [cc11]; rfl)) (by decide) ?_
    refine g_iconst (T_X12_factOf 18 _ _ _ rfl) ⟨by decide, by decide⟩ ?_
    exact g_iret (T_X12_factOf 19 _ _ _ rfl) rfl (qi_of H)
  replace H := ite_n cc11 H
  by_cases cc12 : x0 = 112
  · replace H := ite_p cc12 H
    refine g_tswIn (tgt := 94) (T_X12_factOf 1 _ _ _ rfl) (by rw [cc12]; decide) (by rw [cc12]; decide) (by first | (rw [cc12]; done) | (rw [cc12]; rfl)) (by decide) ?_
    refine g_iconst (T_X12_factOf 18 _ _ _ rfl) ⟨by decide, by decide⟩ ?_
    exact g_iret (T_X12_factOf 19 _ _ _ rfl) rfl (qi_of H)
  replace H := ite_n cc12 H
  by_cases cc13 : x0 = 113
  · replace H := ite_p cc13 H
    refine g_tswIn (tgt := 94) (T_X12_factOf 1 _ _ _ rfl) (by rw [cc13]; decide) (by rw [cc13]; decide) (by first | (rw [cc13]; done) | (rw [cc13]; rfl)) (by decide) ?_
    refine g_iconst (T_X12_factOf 18 _ _ _ rfl) ⟨by decide, by decide⟩ ?_
    exact g_iret (T_X12_factOf 19 _ _ _ rfl) rfl (qi_of H)
  replace H := ite_n cc13 H
  by_cases cc14 : x0 = 114
  · replace H := ite_p cc14 H
    refine g_tswIn (tgt := 86) (T_X12_factOf 1 _ _ _ rfl) (by rw [cc14]; decide) (by rw [cc14]; decide) (by first | (rw [cc14]; done) | (rw [cc14]; rfl)) (by decide) ?_
    refine g_iconst (T_X12_factOf 12 _ _ _ rfl) ⟨by decide, by decide⟩ ?_
    exact g_iret (T_X12_factOf 13 _ _ _ rfl) rfl (qi_of H)
  replace H := ite_n cc14 H
  refine g_tswOut (tgt := 94) (T_X12_factOf 1 _ _ _ rfl) (by omega) (by decide) ?_
  refine g_iconst (T_X12_factOf 18 _ _ _ rfl) ⟨by decide, by decide⟩ ?_
  exact g_iret (T_X12_factOf 19 _ _ _ rfl) rfl (qi_of H)
def F_X12_notes (N : Nat) (x1 : Int) (x2 : Int) (h : Hp) : Option (Hp) :=
  grd (0 ≤ (h 83 21) ∧ (h 83 21) < 260) <|
  bnd (hw h 97 (h 83 21).toNat (w32 ((w32 (1048576 * x1)) + x2))) fun h1 =>
  bnd (hw h1 83 21 (w32 ((h1 83 21) + 1))) fun h2 =>
  some h2
set_option maxRecDepth 100000 in
set_option maxHeartbeats 4000000 in
theorem R_X12_notes (N : Nat) (x1 : Int) (x2 : Int) (h : Hp) (res : Hp) (H : F_X12_notes N x1 x2 h = some res) : Runs M_X12_notes 1 [.inr 84, .inl x1, .inl x2] h (Qv res) := by
  refine Runs.of rfl (Nat.le_of_ble_eq_true rfl) ?_
  show Go M_X12_notes 1 0 [some (.inr 84), some (.inl x1), some (.inl x2)] [] h (Qv res)
  unfold F_X12_notes at H
  refine g_aload_n (T_X12_notes 0 _ _ _ rfl) rfl ?_
  refine g_getR (c := 83) (r := 98) (T_X12_notes 1 _ _ _ rfl) fl_X12_50 rfl (nR rfl) rfl (by decide) ?_
  refine g_aload_n (T_X12_notes 2 _ _ _ rfl) rfl ?_
  refine g_getI (c := 83) (T_X12_notes 3 _ _ _ rfl) fl_X12_189 rfl (Or.inl rfl) ?_
  refine g_ldc (T_X12_notes 4 _ _ _ rfl) kc_X12_192 ⟨by decide, by decide⟩ ?_
  refine g_iload_n (T_X12_notes 5 _ _ _ rfl) rfl ?_
  refine g_imul (T_X12_notes 6 _ _ _ rfl) ?_
  refine g_iload_n (T_X12_notes 7 _ _ _ rfl) rfl ?_
  refine g_iadd (T_X12_notes 8 _ _ _ rfl) ?_
  obtain ⟨hg, H⟩ := grd_some H
  refine g_iast (c := 97) (T_X12_notes 9 _ _ _ rfl) rfl hg ?_
  refine g_bndH H fun h1 H => ?_
  refine g_aload_n (T_X12_notes 10 _ _ _ rfl) rfl ?_
  refine g_aload_n (T_X12_notes 11 _ _ _ rfl) rfl ?_
  refine g_getI (c := 83) (T_X12_notes 12 _ _ _ rfl) fl_X12_189 rfl (Or.inl rfl) ?_
  refine g_iconst (T_X12_notes 13 _ _ _ rfl) ⟨by decide, by decide⟩ ?_
  refine g_iadd (T_X12_notes 14 _ _ _ rfl) ?_
  refine g_put (c := 83) (T_X12_notes 15 _ _ _ rfl) fl_X12_189 rfl (Or.inl rfl) ?_
  refine g_bndH H fun h2 H => ?_
  exact g_vret (T_X12_notes 16 _ _ _ rfl) rfl (qv_of H)
def F_X12_wrongAt (N : Nat) (x1 : Int) (x2 : Int) (h : Hp) : Option (Int × Hp) :=
  bnd (hw h 83 18 (w32 ((w32 ((-1000) * x1)) - x2))) fun h1 =>
  some (0, h1)
set_option maxRecDepth 100000 in
set_option maxHeartbeats 4000000 in
theorem R_X12_wrongAt (N : Nat) (x1 : Int) (x2 : Int) (h : Hp) (res : Int × Hp) (H : F_X12_wrongAt N x1 x2 h = some res) : Runs M_X12_wrongAt 1 [.inr 84, .inl x1, .inl x2] h (Qi res) := by
  refine Runs.of rfl (Nat.le_of_ble_eq_true rfl) ?_
  show Go M_X12_wrongAt 1 0 [some (.inr 84), some (.inl x1), some (.inl x2)] [] h (Qi res)
  unfold F_X12_wrongAt at H
  refine g_aload_n (T_X12_wrongAt 0 _ _ _ rfl) rfl ?_
  refine g_sipush (T_X12_wrongAt 1 _ _ _ rfl) (by decide) ?_
  refine g_iload_n (T_X12_wrongAt 2 _ _ _ rfl) rfl ?_
  refine g_imul (T_X12_wrongAt 3 _ _ _ rfl) ?_
  refine g_iload_n (T_X12_wrongAt 4 _ _ _ rfl) rfl ?_
  refine g_isub (T_X12_wrongAt 5 _ _ _ rfl) ?_
  refine g_put (c := 83) (T_X12_wrongAt 6 _ _ _ rfl) fl_X12_176 rfl (Or.inl rfl) ?_
  refine g_bndH H fun h1 H => ?_
  refine g_iconst (T_X12_wrongAt 7 _ _ _ rfl) ⟨by decide, by decide⟩ ?_
  exact g_zret (T_X12_wrongAt 8 _ _ _ rfl) rfl (by decide) (qi_of H)
def L_X12_readsNumber_10 (N : Nat) : Nat → Int → Hp → Option (Int × Hp)
  | 0, _, _ => none
  | n + 1, x1, h =>
    bd (F_X12_isDigit N h) fun y2 h1 =>
    if y2 = 0 then
      some (1, h1)
    else
    if (h1 83 16) = (w32 (x1 + 5)) then
      bd (F_X12_wrongAt N 2 (h1 83 16) h1) fun y8 h7 =>
      grd (y8 = 0 ∨ y8 = 1) <|
      some (y8, h7)
    else
    bd (F_X12_here N h1) fun y4 h3 =>
    bnd (hw h3 83 19 (w32 ((w32 ((w32 (10 * (h1 83 19))) + y4)) - 48))) fun h5 =>
    bnd (hw h5 83 16 (w32 ((h5 83 16) + 1))) fun h6 =>
    (L_X12_readsNumber_10 N n) x1 h6
set_option maxRecDepth 100000 in
set_option maxHeartbeats 4000000 in
theorem R_L_X12_readsNumber_10 (N : Nat) : ∀ (n : Nat) (x1 : Int) (h : Hp) (res : Int × Hp), L_X12_readsNumber_10 N n x1 h = some res → Go M_X12_readsNumber 3 10 [some (.inr 84), some (.inl x1)] [] h (Qi res)
  | 0, _, _, _, H => by cases H
  | n + 1, x1, h, res, H => by
    have ih := R_L_X12_readsNumber_10 N n
    simp only [L_X12_readsNumber_10] at H
    refine g_aload_n (T_X12_readsNumber 6 _ _ _ rfl) rfl ?_
    obtain ⟨y2, h1, hq, H⟩ := bd_some H
    refine g_callVi (M' := M_X12_isDigit) (c := 83) (av := []) (st := []) (T_X12_readsNumber 7 _ _ _ rfl) ml_X12_185 cb_X12_isDigit rfl rfl (Nat.le_of_ble_eq_true rfl) (by omega) (R_X12_isDigit N _ _ hq) ?_
    refine g_if_eq (tgt := 69) (T_X12_readsNumber 8 _ _ _ rfl) (by decide) (fun cc => ?_) (fun cc => ?_)
    · replace H := ite_p cc H
      refine g_iconst (T_X12_readsNumber 39 _ _ _ rfl) ⟨by decide, by decide⟩ ?_
      exact g_zret (T_X12_readsNumber 40 _ _ _ rfl) rfl (by decide) (qi_of H)
    · replace H := ite_n cc H
      refine g_aload_n (T_X12_readsNumber 9 _ _ _ rfl) rfl ?_
      refine g_getI (c := 83) (T_X12_readsNumber 10 _ _ _ rfl) fl_X12_166 rfl (Or.inl rfl) ?_
      refine g_iload_n (T_X12_readsNumber 11 _ _ _ rfl) rfl ?_
      refine g_iconst (T_X12_readsNumber 12 _ _ _ rfl) ⟨by decide, by decide⟩ ?_
      refine g_iadd (T_X12_readsNumber 13 _ _ _ rfl) ?_
      refine g_icmp_ne (tgt := 37) (T_X12_readsNumber 14 _ _ _ rfl) (by decide) (fun cc => ?_) (fun cc => ?_)
      · replace H := ite_n cc H
        refine g_aload_n (T_X12_readsNumber 21 _ _ _ rfl) rfl ?_
        refine g_bipush (T_X12_readsNumber 22 _ _ _ rfl) (by decide) ?_
        refine g_aload_n (T_X12_readsNumber 23 _ _ _ rfl) rfl ?_
        refine g_getI (c := 83) (T_X12_readsNumber 24 _ _ _ rfl) fl_X12_182 rfl (Or.inl rfl) ?_
        refine g_imul (T_X12_readsNumber 25 _ _ _ rfl) ?_
        refine g_aload_n (T_X12_readsNumber 26 _ _ _ rfl) rfl ?_
        obtain ⟨y4, h3, hq, H⟩ := bd_some H
        refine g_callVi (M' := M_X12_here) (c := 83) (av := []) (st := [.inl (w32 (10 * (h1 83 19))), .inr 84]) (T_X12_readsNumber 27 _ _ _ rfl) ml_X12_172 cb_X12_here rfl rfl (Nat.le_of_ble_eq_true rfl) (by omega) (R_X12_here N _ _ hq) ?_
        refine g_iadd (T_X12_readsNumber 28 _ _ _ rfl) ?_
        refine g_bipush (T_X12_readsNumber 29 _ _ _ rfl) (by decide) ?_
        refine g_isub (T_X12_readsNumber 30 _ _ _ rfl) ?_
        refine g_put (c := 83) (T_X12_readsNumber 31 _ _ _ rfl) fl_X12_182 rfl (Or.inl rfl) ?_
        refine g_bndH H fun h5 H => ?_
        refine g_aload_n (T_X12_readsNumber 32 _ _ _ rfl) rfl ?_
        refine g_aload_n (T_X12_readsNumber 33 _ _ _ rfl) rfl ?_
        refine g_getI (c := 83) (T_X12_readsNumber 34 _ _ _ rfl) fl_X12_166 rfl (Or.inl rfl) ?_
        refine g_iconst (T_X12_readsNumber 35 _ _ _ rfl) ⟨by decide, by decide⟩ ?_
        refine g_iadd (T_X12_readsNumber 36 _ _ _ rfl) ?_
        refine g_put (c := 83) (T_X12_readsNumber 37 _ _ _ rfl) fl_X12_166 rfl (Or.inl rfl) ?_
        refine g_bndH H fun h6 H => ?_
        refine g_goto (tgt := 10) (T_X12_readsNumber 38 _ _ _ rfl) (by decide) ?_
        refine g_weak [true, true] ?_
        exact ih _ _ _ H
      · replace H := ite_p cc H
        refine g_aload_n (T_X12_readsNumber 15 _ _ _ rfl) rfl ?_
        refine g_iconst (T_X12_readsNumber 16 _ _ _ rfl) ⟨by decide, by decide⟩ ?_
        refine g_aload_n (T_X12_readsNumber 17 _ _ _ rfl) rfl ?_
        refine g_getI (c := 83) (T_X12_readsNumber 18 _ _ _ rfl) fl_X12_166 rfl (Or.inl rfl) ?_
        obtain ⟨y8, h7, hq, H⟩ := bd_some H
        refine g_callVi (M' := M_X12_wrongAt) (c := 83) (av := [.inl 2, .inl (h1 83 16)]) (st := []) (T_X12_readsNumber 19 _ _ _ rfl) ml_X12_179 cb_X12_wrongAt rfl rfl (Nat.le_of_ble_eq_true rfl) (by omega) (R_X12_wrongAt N _ _ _ _ hq) ?_
        obtain ⟨hg, H⟩ := grd_some H
        exact g_zret (T_X12_readsNumber 20 _ _ _ rfl) rfl hg (qi_of H)
def F_X12_readsNumber (N : Nat) (h : Hp) : Option (Int × Hp) :=
  bnd ((h 83 16)) fun y1 =>
  bnd (hw h 83 19 0) fun h2 =>
  L_X12_readsNumber_10 N  N y1 h2
set_option maxRecDepth 100000 in
set_option maxHeartbeats 4000000 in
theorem R_X12_readsNumber (N : Nat) (h : Hp) (res : Int × Hp) (H : F_X12_readsNumber N h = some res) : Runs M_X12_readsNumber 3 [.inr 84] h (Qi res) := by
  refine Runs.of rfl (Nat.le_of_ble_eq_true rfl) ?_
  show Go M_X12_readsNumber 3 0 [some (.inr 84), none] [] h (Qi res)
  unfold F_X12_readsNumber at H
  refine g_aload_n (T_X12_readsNumber 0 _ _ _ rfl) rfl ?_
  refine g_getI (c := 83) (T_X12_readsNumber 1 _ _ _ rfl) fl_X12_166 rfl (Or.inl rfl) ?_
  refine g_bndI H fun y1 H => ?_
  refine g_istore_n (T_X12_readsNumber 2 _ _ _ rfl) (by decide) ?_
  refine g_aload_n (T_X12_readsNumber 3 _ _ _ rfl) rfl ?_
  refine g_iconst (T_X12_readsNumber 4 _ _ _ rfl) ⟨by decide, by decide⟩ ?_
  refine g_put (c := 83) (T_X12_readsNumber 5 _ _ _ rfl) fl_X12_182 rfl (Or.inl rfl) ?_
  refine g_bndH H fun h2 H => ?_
  refine g_weak [true, true] ?_
  refine R_L_X12_readsNumber_10 N   _ _ _ _ H
def F_X12_opens (N : Nat) (x1 : Int) (h : Hp) : Option (Int × Hp) :=
  if (h 83 20) = 6 then
    bd (F_X12_wrongAt N 5 (h 83 16) h) fun y6 h5 =>
    grd (y6 = 0 ∨ y6 = 1) <|
    some (y6, h5)
  else
  bnd (hw h 83 20 (w32 ((h 83 20) + 1))) fun h1 =>
  grd (0 ≤ (h1 83 22) ∧ (h1 83 22) < 260) <|
  bnd (hw h1 98 (h1 83 22).toNat (w32 (1048576 * x1))) fun h2 =>
  bnd (hw h2 83 22 (w32 ((h2 83 22) + 1))) fun h3 =>
  bnd (hw h3 83 16 (w32 ((h3 83 16) + 1))) fun h4 =>
  some (1, h4)
set_option maxRecDepth 100000 in
set_option maxHeartbeats 4000000 in
theorem R_X12_opens (N : Nat) (x1 : Int) (h : Hp) (res : Int × Hp) (H : F_X12_opens N x1 h = some res) : Runs M_X12_opens 2 [.inr 84, .inl x1] h (Qi res) := by
  refine Runs.of rfl (Nat.le_of_ble_eq_true rfl) ?_
  show Go M_X12_opens 2 0 [some (.inr 84), some (.inl x1)] [] h (Qi res)
  unfold F_X12_opens at H
  refine g_aload_n (T_X12_opens 0 _ _ _ rfl) rfl ?_
  refine g_getI (c := 83) (T_X12_opens 1 _ _ _ rfl) fl_X12_193 rfl (Or.inl rfl) ?_
  refine g_bipush (T_X12_opens 2 _ _ _ rfl) (by decide) ?_
  refine g_icmp_ne (tgt := 19) (T_X12_opens 3 _ _ _ rfl) (by decide) (fun cc => ?_) (fun cc => ?_)
  · replace H := ite_n cc H
    refine g_aload_n (T_X12_opens 10 _ _ _ rfl) rfl ?_
    refine g_aload_n (T_X12_opens 11 _ _ _ rfl) rfl ?_
    refine g_getI (c := 83) (T_X12_opens 12 _ _ _ rfl) fl_X12_193 rfl (Or.inl rfl) ?_
    refine g_iconst (T_X12_opens 13 _ _ _ rfl) ⟨by decide, by decide⟩ ?_
    refine g_iadd (T_X12_opens 14 _ _ _ rfl) ?_
    refine g_put (c := 83) (T_X12_opens 15 _ _ _ rfl) fl_X12_193 rfl (Or.inl rfl) ?_
    refine g_bndH H fun h1 H => ?_
    refine g_aload_n (T_X12_opens 16 _ _ _ rfl) rfl ?_
    refine g_getR (c := 83) (r := 99) (T_X12_opens 17 _ _ _ rfl) fl_X12_53 rfl (nR rfl) rfl (by decide) ?_
    refine g_aload_n (T_X12_opens 18 _ _ _ rfl) rfl ?_
    refine g_getI (c := 83) (T_X12_opens 19 _ _ _ rfl) fl_X12_196 rfl (Or.inl rfl) ?_
    refine g_ldc (T_X12_opens 20 _ _ _ rfl) kc_X12_192 ⟨by decide, by decide⟩ ?_
    refine g_iload_n (T_X12_opens 21 _ _ _ rfl) rfl ?_
    refine g_imul (T_X12_opens 22 _ _ _ rfl) ?_
    obtain ⟨hg, H⟩ := grd_some H
    refine g_iast (c := 98) (T_X12_opens 23 _ _ _ rfl) rfl hg ?_
    refine g_bndH H fun h2 H => ?_
    refine g_aload_n (T_X12_opens 24 _ _ _ rfl) rfl ?_
    refine g_aload_n (T_X12_opens 25 _ _ _ rfl) rfl ?_
    refine g_getI (c := 83) (T_X12_opens 26 _ _ _ rfl) fl_X12_196 rfl (Or.inl rfl) ?_
    refine g_iconst (T_X12_opens 27 _ _ _ rfl) ⟨by decide, by decide⟩ ?_
    refine g_iadd (T_X12_opens 28 _ _ _ rfl) ?_
    refine g_put (c := 83) (T_X12_opens 29 _ _ _ rfl) fl_X12_196 rfl (Or.inl rfl) ?_
    refine g_bndH H fun h3 H => ?_
    refine g_aload_n (T_X12_opens 30 _ _ _ rfl) rfl ?_
    refine g_aload_n (T_X12_opens 31 _ _ _ rfl) rfl ?_
    refine g_getI (c := 83) (T_X12_opens 32 _ _ _ rfl) fl_X12_166 rfl (Or.inl rfl) ?_
    refine g_iconst (T_X12_opens 33 _ _ _ rfl) ⟨by decide, by decide⟩ ?_
    refine g_iadd (T_X12_opens 34 _ _ _ rfl) ?_
    refine g_put (c := 83) (T_X12_opens 35 _ _ _ rfl) fl_X12_166 rfl (Or.inl rfl) ?_
    refine g_bndH H fun h4 H => ?_
    refine g_iconst (T_X12_opens 36 _ _ _ rfl) ⟨by decide, by decide⟩ ?_
    exact g_zret (T_X12_opens 37 _ _ _ rfl) rfl (by decide) (qi_of H)
  · replace H := ite_p cc H
    refine g_aload_n (T_X12_opens 4 _ _ _ rfl) rfl ?_
    refine g_iconst (T_X12_opens 5 _ _ _ rfl) ⟨by decide, by decide⟩ ?_
    refine g_aload_n (T_X12_opens 6 _ _ _ rfl) rfl ?_
    refine g_getI (c := 83) (T_X12_opens 7 _ _ _ rfl) fl_X12_166 rfl (Or.inl rfl) ?_
    obtain ⟨y6, h5, hq, H⟩ := bd_some H
    refine g_callVi (M' := M_X12_wrongAt) (c := 83) (av := [.inl 5, .inl (h 83 16)]) (st := []) (T_X12_opens 8 _ _ _ rfl) ml_X12_179 cb_X12_wrongAt rfl rfl (Nat.le_of_ble_eq_true rfl) (by omega) (R_X12_wrongAt N _ _ _ _ hq) ?_
    obtain ⟨hg, H⟩ := grd_some H
    exact g_zret (T_X12_opens 9 _ _ _ rfl) rfl hg (qi_of H)
def L_X12_readsFactor_0 (N : Nat) : Nat → Hp → Option (Int × Hp)
  | 0, _ => none
  | n + 1, h =>
    bd (F_X12_here N h) fun y2 h1 =>
    if y2 = 91 then
      bd (F_X12_opens N 14 h1) fun y17 h16 =>
      if y17 = 0 then
        some (0, h16)
      else
      (L_X12_readsFactor_0 N n) h16
    else
    bd (F_X12_isDigit N h1) fun y4 h3 =>
    if y4 = 0 then
      bd (F_X12_here N h3) fun y6 h5 =>
      bd (F_X12_factOf N y6 h5) fun y8 h7 =>
      if y8 = (-1) then
        bd (F_X12_wrongAt N 1 (h7 83 16) h7) fun y12 h11 =>
        grd (y12 = 0 ∨ y12 = 1) <|
        some (y12, h11)
      else
      bv (F_X12_notes N 1 y8 h7) fun h9 =>
      bnd (hw h9 83 16 (w32 ((h9 83 16) + 1))) fun h10 =>
      some (1, h10)
    else
    bd (F_X12_readsNumber N h3) fun y14 h13 =>
    if y14 = 0 then
      some (0, h13)
    else
    bv (F_X12_notes N 0 (h13 83 19) h13) fun h15 =>
    some (1, h15)
set_option maxRecDepth 100000 in
set_option maxHeartbeats 4000000 in
theorem R_L_X12_readsFactor_0 (N : Nat) : ∀ (n : Nat) (h : Hp) (res : Int × Hp), L_X12_readsFactor_0 N n h = some res → Go M_X12_readsFactor 4 0 [some (.inr 84), none] [] h (Qi res)
  | 0, _, _, H => by cases H
  | n + 1, h, res, H => by
    have ih := R_L_X12_readsFactor_0 N n
    simp only [L_X12_readsFactor_0] at H
    refine g_aload_n (T_X12_readsFactor 0 _ _ _ rfl) rfl ?_
    obtain ⟨y2, h1, hq, H⟩ := bd_some H
    refine g_callVi (M' := M_X12_here) (c := 83) (av := []) (st := []) (T_X12_readsFactor 1 _ _ _ rfl) ml_X12_172 cb_X12_here rfl rfl (Nat.le_of_ble_eq_true rfl) (by omega) (R_X12_here N _ _ hq) ?_
    refine g_bipush (T_X12_readsFactor 2 _ _ _ rfl) (by decide) ?_
    refine g_icmp_ne (tgt := 20) (T_X12_readsFactor 3 _ _ _ rfl) (by decide) (fun cc => ?_) (fun cc => ?_)
    · replace H := ite_n cc H
      refine g_aload_n (T_X12_readsFactor 10 _ _ _ rfl) rfl ?_
      obtain ⟨y4, h3, hq, H⟩ := bd_some H
      refine g_callVi (M' := M_X12_isDigit) (c := 83) (av := []) (st := []) (T_X12_readsFactor 11 _ _ _ rfl) ml_X12_185 cb_X12_isDigit rfl rfl (Nat.le_of_ble_eq_true rfl) (by omega) (R_X12_isDigit N _ _ hq) ?_
      refine g_if_eq (tgt := 47) (T_X12_readsFactor 12 _ _ _ rfl) (by decide) (fun cc => ?_) (fun cc => ?_)
      · replace H := ite_p cc H
        refine g_aload_n (T_X12_readsFactor 25 _ _ _ rfl) rfl ?_
        obtain ⟨y6, h5, hq, H⟩ := bd_some H
        refine g_callVi (M' := M_X12_here) (c := 83) (av := []) (st := []) (T_X12_readsFactor 26 _ _ _ rfl) ml_X12_172 cb_X12_here rfl rfl (Nat.le_of_ble_eq_true rfl) (by omega) (R_X12_here N _ _ hq) ?_
        obtain ⟨y8, h7, hq, H⟩ := bd_some H
        refine g_callSi (M' := M_X12_factOf) (av := [.inl y6]) (st := []) (T_X12_readsFactor 27 _ _ _ rfl) ml_X12_211 cb_X12_factOf rfl (Nat.le_of_ble_eq_true rfl) (by omega) (R_X12_factOf N _ _ _ hq) ?_
        refine g_istore_n (T_X12_readsFactor 28 _ _ _ rfl) (by decide) ?_
        refine g_iload_n (T_X12_readsFactor 29 _ _ _ rfl) rfl ?_
        refine g_iconst (T_X12_readsFactor 30 _ _ _ rfl) ⟨by decide, by decide⟩ ?_
        refine g_icmp_ne (tgt := 70) (T_X12_readsFactor 31 _ _ _ rfl) (by decide) (fun cc => ?_) (fun cc => ?_)
        · replace H := ite_n cc H
          refine g_aload_n (T_X12_readsFactor 38 _ _ _ rfl) rfl ?_
          refine g_iconst (T_X12_readsFactor 39 _ _ _ rfl) ⟨by decide, by decide⟩ ?_
          refine g_iload_n (T_X12_readsFactor 40 _ _ _ rfl) rfl ?_
          obtain ⟨h9, hq, H⟩ := bv_some H
          refine g_callVv (M' := M_X12_notes) (c := 83) (av := [.inl 1, .inl y8]) (st := []) (T_X12_readsFactor 41 _ _ _ rfl) ml_X12_202 cb_X12_notes rfl rfl (Nat.le_of_ble_eq_true rfl) (by omega) (R_X12_notes N _ _ _ _ hq) ?_
          refine g_aload_n (T_X12_readsFactor 42 _ _ _ rfl) rfl ?_
          refine g_aload_n (T_X12_readsFactor 43 _ _ _ rfl) rfl ?_
          refine g_getI (c := 83) (T_X12_readsFactor 44 _ _ _ rfl) fl_X12_166 rfl (Or.inl rfl) ?_
          refine g_iconst (T_X12_readsFactor 45 _ _ _ rfl) ⟨by decide, by decide⟩ ?_
          refine g_iadd (T_X12_readsFactor 46 _ _ _ rfl) ?_
          refine g_put (c := 83) (T_X12_readsFactor 47 _ _ _ rfl) fl_X12_166 rfl (Or.inl rfl) ?_
          refine g_bndH H fun h10 H => ?_
          refine g_iconst (T_X12_readsFactor 48 _ _ _ rfl) ⟨by decide, by decide⟩ ?_
          exact g_zret (T_X12_readsFactor 49 _ _ _ rfl) rfl (by decide) (qi_of H)
        · replace H := ite_p cc H
          refine g_aload_n (T_X12_readsFactor 32 _ _ _ rfl) rfl ?_
          refine g_iconst (T_X12_readsFactor 33 _ _ _ rfl) ⟨by decide, by decide⟩ ?_
          refine g_aload_n (T_X12_readsFactor 34 _ _ _ rfl) rfl ?_
          refine g_getI (c := 83) (T_X12_readsFactor 35 _ _ _ rfl) fl_X12_166 rfl (Or.inl rfl) ?_
          obtain ⟨y12, h11, hq, H⟩ := bd_some H
          refine g_callVi (M' := M_X12_wrongAt) (c := 83) (av := [.inl 1, .inl (h7 83 16)]) (st := []) (T_X12_readsFactor 36 _ _ _ rfl) ml_X12_179 cb_X12_wrongAt rfl rfl (Nat.le_of_ble_eq_true rfl) (by omega) (R_X12_wrongAt N _ _ _ _ hq) ?_
          obtain ⟨hg, H⟩ := grd_some H
          exact g_zret (T_X12_readsFactor 37 _ _ _ rfl) rfl hg (qi_of H)
      · replace H := ite_n cc H
        refine g_aload_n (T_X12_readsFactor 13 _ _ _ rfl) rfl ?_
        obtain ⟨y14, h13, hq, H⟩ := bd_some H
        refine g_callVi (M' := M_X12_readsNumber) (c := 83) (av := []) (st := []) (T_X12_readsFactor 14 _ _ _ rfl) ml_X12_208 cb_X12_readsNumber rfl rfl (Nat.le_of_ble_eq_true rfl) (by omega) (R_X12_readsNumber N _ _ hq) ?_
        refine g_if_ne (tgt := 36) (T_X12_readsFactor 15 _ _ _ rfl) (by decide) (fun cc => ?_) (fun cc => ?_)
        · replace H := ite_n cc H
          refine g_aload_n (T_X12_readsFactor 18 _ _ _ rfl) rfl ?_
          refine g_iconst (T_X12_readsFactor 19 _ _ _ rfl) ⟨by decide, by decide⟩ ?_
          refine g_aload_n (T_X12_readsFactor 20 _ _ _ rfl) rfl ?_
          refine g_getI (c := 83) (T_X12_readsFactor 21 _ _ _ rfl) fl_X12_182 rfl (Or.inl rfl) ?_
          obtain ⟨h15, hq, H⟩ := bv_some H
          refine g_callVv (M' := M_X12_notes) (c := 83) (av := [.inl 0, .inl (h13 83 19)]) (st := []) (T_X12_readsFactor 22 _ _ _ rfl) ml_X12_202 cb_X12_notes rfl rfl (Nat.le_of_ble_eq_true rfl) (by omega) (R_X12_notes N _ _ _ _ hq) ?_
          refine g_iconst (T_X12_readsFactor 23 _ _ _ rfl) ⟨by decide, by decide⟩ ?_
          exact g_zret (T_X12_readsFactor 24 _ _ _ rfl) rfl (by decide) (qi_of H)
        · replace H := ite_p cc H
          refine g_iconst (T_X12_readsFactor 16 _ _ _ rfl) ⟨by decide, by decide⟩ ?_
          exact g_zret (T_X12_readsFactor 17 _ _ _ rfl) rfl (by decide) (qi_of H)
    · replace H := ite_p cc H
      refine g_aload_n (T_X12_readsFactor 4 _ _ _ rfl) rfl ?_
      refine g_bipush (T_X12_readsFactor 5 _ _ _ rfl) (by decide) ?_
      obtain ⟨y17, h16, hq, H⟩ := bd_some H
      refine g_callVi (M' := M_X12_opens) (c := 83) (av := [.inl 14]) (st := []) (T_X12_readsFactor 6 _ _ _ rfl) ml_X12_205 cb_X12_opens rfl rfl (Nat.le_of_ble_eq_true rfl) (by omega) (R_X12_opens N _ _ _ hq) ?_
      refine g_if_ne (tgt := 0) (T_X12_readsFactor 7 _ _ _ rfl) (by decide) (fun cc => ?_) (fun cc => ?_)
      · replace H := ite_n cc H
        refine g_weak [true, false] ?_
        exact ih _ _ H
      · replace H := ite_p cc H
        refine g_iconst (T_X12_readsFactor 8 _ _ _ rfl) ⟨by decide, by decide⟩ ?_
        exact g_zret (T_X12_readsFactor 9 _ _ _ rfl) rfl (by decide) (qi_of H)
def F_X12_readsFactor (N : Nat) (h : Hp) : Option (Int × Hp) :=
  L_X12_readsFactor_0 N  N h
set_option maxRecDepth 100000 in
set_option maxHeartbeats 4000000 in
theorem R_X12_readsFactor (N : Nat) (h : Hp) (res : Int × Hp) (H : F_X12_readsFactor N h = some res) : Runs M_X12_readsFactor 4 [.inr 84] h (Qi res) := by
  refine Runs.of rfl (Nat.le_of_ble_eq_true rfl) ?_
  show Go M_X12_readsFactor 4 0 [some (.inr 84), none] [] h (Qi res)
  unfold F_X12_readsFactor at H
  refine g_weak [true, false] ?_
  refine R_L_X12_readsFactor_0 N   _ _ _ H
def F_X12_sumSign (N : Nat) (x0 : Int) (h : Hp) : Option (Int × Hp) :=
  if x0 = 43 then
    some (2, h)
  else
  if x0 = 45 then
    some (3, h)
  else
  if x0 = 42 then
    some (4, h)
  else
  if x0 = 47 then
    some (5, h)
  else
  if x0 = 37 then
    some (6, h)
  else
  some ((-1), h)
set_option maxRecDepth 100000 in
set_option maxHeartbeats 4000000 in
theorem R_X12_sumSign (N : Nat) (x0 : Int) (h : Hp) (res : Int × Hp) (H : F_X12_sumSign N x0 h = some res) : Runs M_X12_sumSign 1 [.inl x0] h (Qi res) := by
  refine Runs.of rfl (Nat.le_of_ble_eq_true rfl) ?_
  show Go M_X12_sumSign 1 0 [some (.inl x0)] [] h (Qi res)
  unfold F_X12_sumSign at H
  refine g_iload_n (T_X12_sumSign 0 _ _ _ rfl) rfl ?_
  refine g_bipush (T_X12_sumSign 1 _ _ _ rfl) (by decide) ?_
  refine g_icmp_ne (tgt := 10) (T_X12_sumSign 2 _ _ _ rfl) (by decide) (fun cc => ?_) (fun cc => ?_)
  · replace H := ite_n cc H
    refine g_iload_n (T_X12_sumSign 5 _ _ _ rfl) rfl ?_
    refine g_bipush (T_X12_sumSign 6 _ _ _ rfl) (by decide) ?_
    refine g_icmp_ne (tgt := 20) (T_X12_sumSign 7 _ _ _ rfl) (by decide) (fun cc => ?_) (fun cc => ?_)
    · replace H := ite_n cc H
      refine g_iload_n (T_X12_sumSign 10 _ _ _ rfl) rfl ?_
      refine g_bipush (T_X12_sumSign 11 _ _ _ rfl) (by decide) ?_
      refine g_icmp_ne (tgt := 30) (T_X12_sumSign 12 _ _ _ rfl) (by decide) (fun cc => ?_) (fun cc => ?_)
      · replace H := ite_n cc H
        refine g_iload_n (T_X12_sumSign 15 _ _ _ rfl) rfl ?_
        refine g_bipush (T_X12_sumSign 16 _ _ _ rfl) (by decide) ?_
        refine g_icmp_ne (tgt := 40) (T_X12_sumSign 17 _ _ _ rfl) (by decide) (fun cc => ?_) (fun cc => ?_)
        · replace H := ite_n cc H
          refine g_iload_n (T_X12_sumSign 20 _ _ _ rfl) rfl ?_
          refine g_bipush (T_X12_sumSign 21 _ _ _ rfl) (by decide) ?_
          refine g_icmp_ne (tgt := 51) (T_X12_sumSign 22 _ _ _ rfl) (by decide) (fun cc => ?_) (fun cc => ?_)
          · replace H := ite_n cc H
            refine g_iconst (T_X12_sumSign 25 _ _ _ rfl) ⟨by decide, by decide⟩ ?_
            exact g_iret (T_X12_sumSign 26 _ _ _ rfl) rfl (qi_of H)
          · replace H := ite_p cc H
            refine g_bipush (T_X12_sumSign 23 _ _ _ rfl) (by decide) ?_
            refine g_goto (tgt := 52) (T_X12_sumSign 24 _ _ _ rfl) (by decide) ?_
            exact g_iret (T_X12_sumSign 26 _ _ _ rfl) rfl (qi_of H)
        · replace H := ite_p cc H
          refine g_iconst (T_X12_sumSign 18 _ _ _ rfl) ⟨by decide, by decide⟩ ?_
          refine g_goto (tgt := 52) (T_X12_sumSign 19 _ _ _ rfl) (by decide) ?_
          exact g_iret (T_X12_sumSign 26 _ _ _ rfl) rfl (qi_of H)
      · replace H := ite_p cc H
        refine g_iconst (T_X12_sumSign 13 _ _ _ rfl) ⟨by decide, by decide⟩ ?_
        refine g_goto (tgt := 52) (T_X12_sumSign 14 _ _ _ rfl) (by decide) ?_
        exact g_iret (T_X12_sumSign 26 _ _ _ rfl) rfl (qi_of H)
    · replace H := ite_p cc H
      refine g_iconst (T_X12_sumSign 8 _ _ _ rfl) ⟨by decide, by decide⟩ ?_
      refine g_goto (tgt := 52) (T_X12_sumSign 9 _ _ _ rfl) (by decide) ?_
      exact g_iret (T_X12_sumSign 26 _ _ _ rfl) rfl (qi_of H)
  · replace H := ite_p cc H
    refine g_iconst (T_X12_sumSign 3 _ _ _ rfl) ⟨by decide, by decide⟩ ?_
    refine g_goto (tgt := 52) (T_X12_sumSign 4 _ _ _ rfl) (by decide) ?_
    exact g_iret (T_X12_sumSign 26 _ _ _ rfl) rfl (qi_of H)
def L_X12_hasOpenSum_2 (N : Nat) : Nat → Int → Hp → Option (Int × Hp)
  | 0, _, _ => none
  | n + 1, x2, h =>
    if (h 83 22) ≤ x2 then
      some (0, h)
    else
    grd (0 ≤ x2 ∧ x2 < 260) <|
    if (idiv (h 98 x2.toNat) 1048576) = 14 then
      some (1, h)
    else
    bnd (w32 (x2 + 1)) fun y1 =>
    (L_X12_hasOpenSum_2 N n) y1 h
set_option maxRecDepth 100000 in
set_option maxHeartbeats 4000000 in
theorem R_L_X12_hasOpenSum_2 (N : Nat) : ∀ (n : Nat) (x2 : Int) (h : Hp) (res : Int × Hp), L_X12_hasOpenSum_2 N n x2 h = some res → Go M_X12_hasOpenSum 1 2 [some (.inr 84), none, some (.inl x2)] [] h (Qi res)
  | 0, _, _, _, H => by cases H
  | n + 1, x2, h, res, H => by
    have ih := R_L_X12_hasOpenSum_2 N n
    simp only [L_X12_hasOpenSum_2] at H
    refine g_iload_n (T_X12_hasOpenSum 2 _ _ _ rfl) rfl ?_
    refine g_aload_n (T_X12_hasOpenSum 3 _ _ _ rfl) rfl ?_
    refine g_getI (c := 83) (T_X12_hasOpenSum 4 _ _ _ rfl) fl_X12_196 rfl (Or.inl rfl) ?_
    refine g_icmp_ge (tgt := 32) (T_X12_hasOpenSum 5 _ _ _ rfl) (by decide) (fun cc => ?_) (fun cc => ?_)
    · replace H := ite_p cc H
      refine g_iconst (T_X12_hasOpenSum 18 _ _ _ rfl) ⟨by decide, by decide⟩ ?_
      exact g_zret (T_X12_hasOpenSum 19 _ _ _ rfl) rfl (by decide) (qi_of H)
    · replace H := ite_n cc H
      refine g_aload_n (T_X12_hasOpenSum 6 _ _ _ rfl) rfl ?_
      refine g_getR (c := 83) (r := 99) (T_X12_hasOpenSum 7 _ _ _ rfl) fl_X12_53 rfl (nR rfl) rfl (by decide) ?_
      refine g_iload_n (T_X12_hasOpenSum 8 _ _ _ rfl) rfl ?_
      obtain ⟨hg, H⟩ := grd_some H
      refine g_iald (c := 98) (T_X12_hasOpenSum 9 _ _ _ rfl) rfl hg ?_
      refine g_ldc (T_X12_hasOpenSum 10 _ _ _ rfl) kc_X12_192 ⟨by decide, by decide⟩ ?_
      refine g_idiv (T_X12_hasOpenSum 11 _ _ _ rfl) (by decide) ?_
      refine g_bipush (T_X12_hasOpenSum 12 _ _ _ rfl) (by decide) ?_
      refine g_icmp_ne (tgt := 26) (T_X12_hasOpenSum 13 _ _ _ rfl) (by decide) (fun cc => ?_) (fun cc => ?_)
      · replace H := ite_n cc H
        refine g_iincB (T_X12_hasOpenSum 16 _ _ _ rfl) rfl (by decide) H fun y1 H => ?_
        refine g_goto (tgt := 2) (T_X12_hasOpenSum 17 _ _ _ rfl) (by decide) ?_
        refine g_weak [true, false, true] ?_
        exact ih _ _ _ H
      · replace H := ite_p cc H
        refine g_iconst (T_X12_hasOpenSum 14 _ _ _ rfl) ⟨by decide, by decide⟩ ?_
        exact g_zret (T_X12_hasOpenSum 15 _ _ _ rfl) rfl (by decide) (qi_of H)
def F_X12_hasOpenSum (N : Nat) (x1 : Int) (h : Hp) : Option (Int × Hp) :=
  L_X12_hasOpenSum_2 N  N x1 h
set_option maxRecDepth 100000 in
set_option maxHeartbeats 4000000 in
theorem R_X12_hasOpenSum (N : Nat) (x1 : Int) (h : Hp) (res : Int × Hp) (H : F_X12_hasOpenSum N x1 h = some res) : Runs M_X12_hasOpenSum 1 [.inr 84, .inl x1] h (Qi res) := by
  refine Runs.of rfl (Nat.le_of_ble_eq_true rfl) ?_
  show Go M_X12_hasOpenSum 1 0 [some (.inr 84), some (.inl x1), none] [] h (Qi res)
  unfold F_X12_hasOpenSum at H
  refine g_iload_n (T_X12_hasOpenSum 0 _ _ _ rfl) rfl ?_
  refine g_istore_n (T_X12_hasOpenSum 1 _ _ _ rfl) (by decide) ?_
  refine g_weak [true, false, true] ?_
  refine R_L_X12_hasOpenSum_2 N   _ _ _ _ H
def F_X12_waitTop (N : Nat) (h : Hp) : Option (Int × Hp) :=
  if (h 83 22) = 0 then
    some ((-1), h)
  else
  grd (0 ≤ (w32 ((h 83 22) - 1)) ∧ (w32 ((h 83 22) - 1)) < 260) <|
  some ((idiv (h 98 (w32 ((h 83 22) - 1)).toNat) 1048576), h)
set_option maxRecDepth 100000 in
set_option maxHeartbeats 4000000 in
theorem R_X12_waitTop (N : Nat) (h : Hp) (res : Int × Hp) (H : F_X12_waitTop N h = some res) : Runs M_X12_waitTop 1 [.inr 84] h (Qi res) := by
  refine Runs.of rfl (Nat.le_of_ble_eq_true rfl) ?_
  show Go M_X12_waitTop 1 0 [some (.inr 84)] [] h (Qi res)
  unfold F_X12_waitTop at H
  refine g_aload_n (T_X12_waitTop 0 _ _ _ rfl) rfl ?_
  refine g_getI (c := 83) (T_X12_waitTop 1 _ _ _ rfl) fl_X12_196 rfl (Or.inl rfl) ?_
  refine g_if_ne (tgt := 11) (T_X12_waitTop 2 _ _ _ rfl) (by decide) (fun cc => ?_) (fun cc => ?_)
  · replace H := ite_n cc H
    refine g_aload_n (T_X12_waitTop 5 _ _ _ rfl) rfl ?_
    refine g_getR (c := 83) (r := 99) (T_X12_waitTop 6 _ _ _ rfl) fl_X12_53 rfl (nR rfl) rfl (by decide) ?_
    refine g_aload_n (T_X12_waitTop 7 _ _ _ rfl) rfl ?_
    refine g_getI (c := 83) (T_X12_waitTop 8 _ _ _ rfl) fl_X12_196 rfl (Or.inl rfl) ?_
    refine g_iconst (T_X12_waitTop 9 _ _ _ rfl) ⟨by decide, by decide⟩ ?_
    refine g_isub (T_X12_waitTop 10 _ _ _ rfl) ?_
    obtain ⟨hg, H⟩ := grd_some H
    refine g_iald (c := 98) (T_X12_waitTop 11 _ _ _ rfl) rfl hg ?_
    refine g_ldc (T_X12_waitTop 12 _ _ _ rfl) kc_X12_192 ⟨by decide, by decide⟩ ?_
    refine g_idiv (T_X12_waitTop 13 _ _ _ rfl) (by decide) ?_
    exact g_iret (T_X12_waitTop 14 _ _ _ rfl) rfl (qi_of H)
  · replace H := ite_p cc H
    refine g_iconst (T_X12_waitTop 3 _ _ _ rfl) ⟨by decide, by decide⟩ ?_
    refine g_goto (tgt := 25) (T_X12_waitTop 4 _ _ _ rfl) (by decide) ?_
    exact g_iret (T_X12_waitTop 14 _ _ _ rfl) rfl (qi_of H)
def J_X12_closesSums_37 (N : Nat) (k0 : Int → Hp → Option (Hp)) (x1 : Int) (h : Hp) : Option (Hp) :=
  bd (F_X12_waitTop N h) fun y2 h1 =>
  bv (F_X12_notes N y2 0 h1) fun h3 =>
  bnd (hw h3 83 22 (w32 ((h3 83 22) - 1))) fun h4 =>
  k0 x1 h4
set_option maxRecDepth 100000 in
set_option maxHeartbeats 4000000 in
theorem R_J_X12_closesSums_37 (N : Nat) (k0 : Int → Hp → Option (Hp)) (hk0 : ∀ (x1 : Int) (h : Hp) (res : Hp), k0 x1 h = some res → Go M_X12_closesSums 2 0 [some (.inr 84), some (.inl x1)] [] h (Qv res)) (x1 : Int) (h : Hp) (res : Hp) (H : J_X12_closesSums_37 N k0 x1 h = some res) : Go M_X12_closesSums 2 37 [some (.inr 84), some (.inl x1)] [] h (Qv res) := by
  unfold J_X12_closesSums_37 at H
  refine g_aload_n (T_X12_closesSums 18 _ _ _ rfl) rfl ?_
  refine g_aload_n (T_X12_closesSums 19 _ _ _ rfl) rfl ?_
  obtain ⟨y2, h1, hq, H⟩ := bd_some H
  refine g_callVi (M' := M_X12_waitTop) (c := 83) (av := []) (st := [.inr 84]) (T_X12_closesSums 20 _ _ _ rfl) ml_X12_199 cb_X12_waitTop rfl rfl (Nat.le_of_ble_eq_true rfl) (by omega) (R_X12_waitTop N _ _ hq) ?_
  refine g_iconst (T_X12_closesSums 21 _ _ _ rfl) ⟨by decide, by decide⟩ ?_
  obtain ⟨h3, hq, H⟩ := bv_some H
  refine g_callVv (M' := M_X12_notes) (c := 83) (av := [.inl y2, .inl 0]) (st := []) (T_X12_closesSums 22 _ _ _ rfl) ml_X12_202 cb_X12_notes rfl rfl (Nat.le_of_ble_eq_true rfl) (by omega) (R_X12_notes N _ _ _ _ hq) ?_
  refine g_aload_n (T_X12_closesSums 23 _ _ _ rfl) rfl ?_
  refine g_aload_n (T_X12_closesSums 24 _ _ _ rfl) rfl ?_
  refine g_getI (c := 83) (T_X12_closesSums 25 _ _ _ rfl) fl_X12_196 rfl (Or.inl rfl) ?_
  refine g_iconst (T_X12_closesSums 26 _ _ _ rfl) ⟨by decide, by decide⟩ ?_
  refine g_isub (T_X12_closesSums 27 _ _ _ rfl) ?_
  refine g_put (c := 83) (T_X12_closesSums 28 _ _ _ rfl) fl_X12_196 rfl (Or.inl rfl) ?_
  refine g_bndH H fun h4 H => ?_
  refine g_goto (tgt := 0) (T_X12_closesSums 29 _ _ _ rfl) (by decide) ?_
  refine g_weak [true, true] ?_
  exact hk0 _ _ _ H
def J_X12_closesSums_17 (N : Nat) (k0 : Int → Hp → Option (Hp)) (x1 : Int) (h : Hp) : Option (Hp) :=
  if x1 = 0 then
    some h
  else
  bd (F_X12_waitTop N h) fun y2 h1 =>
  if y2 = 2 then
    J_X12_closesSums_37 N k0 x1 h1
  else
  bd (F_X12_waitTop N h1) fun y4 h3 =>
  if y4 = 3 then
    J_X12_closesSums_37 N k0 x1 h3
  else
  some h3
set_option maxRecDepth 100000 in
set_option maxHeartbeats 4000000 in
theorem R_J_X12_closesSums_17 (N : Nat) (k0 : Int → Hp → Option (Hp)) (hk0 : ∀ (x1 : Int) (h : Hp) (res : Hp), k0 x1 h = some res → Go M_X12_closesSums 2 0 [some (.inr 84), some (.inl x1)] [] h (Qv res)) (x1 : Int) (h : Hp) (res : Hp) (H : J_X12_closesSums_17 N k0 x1 h = some res) : Go M_X12_closesSums 2 17 [some (.inr 84), some (.inl x1)] [] h (Qv res) := by
  unfold J_X12_closesSums_17 at H
  refine g_iload_n (T_X12_closesSums 8 _ _ _ rfl) rfl ?_
  refine g_if_eq (tgt := 59) (T_X12_closesSums 9 _ _ _ rfl) (by decide) (fun cc => ?_) (fun cc => ?_)
  · replace H := ite_p cc H
    exact g_vret (T_X12_closesSums 30 _ _ _ rfl) rfl (qv_of H)
  · replace H := ite_n cc H
    refine g_aload_n (T_X12_closesSums 10 _ _ _ rfl) rfl ?_
    obtain ⟨y2, h1, hq, H⟩ := bd_some H
    refine g_callVi (M' := M_X12_waitTop) (c := 83) (av := []) (st := []) (T_X12_closesSums 11 _ _ _ rfl) ml_X12_199 cb_X12_waitTop rfl rfl (Nat.le_of_ble_eq_true rfl) (by omega) (R_X12_waitTop N _ _ hq) ?_
    refine g_iconst (T_X12_closesSums 12 _ _ _ rfl) ⟨by decide, by decide⟩ ?_
    refine g_icmp_eq (tgt := 37) (T_X12_closesSums 13 _ _ _ rfl) (by decide) (fun cc => ?_) (fun cc => ?_)
    · replace H := ite_p cc H
      refine g_weak [true, true] ?_
      exact R_J_X12_closesSums_37 N k0 hk0 _ _ _ H
    · replace H := ite_n cc H
      refine g_aload_n (T_X12_closesSums 14 _ _ _ rfl) rfl ?_
      obtain ⟨y4, h3, hq, H⟩ := bd_some H
      refine g_callVi (M' := M_X12_waitTop) (c := 83) (av := []) (st := []) (T_X12_closesSums 15 _ _ _ rfl) ml_X12_199 cb_X12_waitTop rfl rfl (Nat.le_of_ble_eq_true rfl) (by omega) (R_X12_waitTop N _ _ hq) ?_
      refine g_iconst (T_X12_closesSums 16 _ _ _ rfl) ⟨by decide, by decide⟩ ?_
      refine g_icmp_ne (tgt := 59) (T_X12_closesSums 17 _ _ _ rfl) (by decide) (fun cc => ?_) (fun cc => ?_)
      · replace H := ite_n cc H
        exact g_vret (T_X12_closesSums 30 _ _ _ rfl) rfl (qv_of H)
      · replace H := ite_p cc H
        refine g_weak [true, true] ?_
        exact R_J_X12_closesSums_37 N k0 hk0 _ _ _ H
def L_X12_closesSums_0 (N : Nat) : Nat → Int → Hp → Option (Hp)
  | 0, _, _ => none
  | n + 1, x1, h =>
    bd (F_X12_waitTop N h) fun y2 h1 =>
    if y2 < 4 then
      J_X12_closesSums_17 N (L_X12_closesSums_0 N n) x1 h1
    else
    bd (F_X12_waitTop N h1) fun y4 h3 =>
    if y4 ≤ 6 then
      J_X12_closesSums_37 N (L_X12_closesSums_0 N n) x1 h3
    else
    J_X12_closesSums_17 N (L_X12_closesSums_0 N n) x1 h3
set_option maxRecDepth 100000 in
set_option maxHeartbeats 4000000 in
theorem R_L_X12_closesSums_0 (N : Nat) : ∀ (n : Nat) (x1 : Int) (h : Hp) (res : Hp), L_X12_closesSums_0 N n x1 h = some res → Go M_X12_closesSums 2 0 [some (.inr 84), some (.inl x1)] [] h (Qv res)
  | 0, _, _, _, H => by cases H
  | n + 1, x1, h, res, H => by
    have ih := R_L_X12_closesSums_0 N n
    simp only [L_X12_closesSums_0] at H
    refine g_aload_n (T_X12_closesSums 0 _ _ _ rfl) rfl ?_
    obtain ⟨y2, h1, hq, H⟩ := bd_some H
    refine g_callVi (M' := M_X12_waitTop) (c := 83) (av := []) (st := []) (T_X12_closesSums 1 _ _ _ rfl) ml_X12_199 cb_X12_waitTop rfl rfl (Nat.le_of_ble_eq_true rfl) (by omega) (R_X12_waitTop N _ _ hq) ?_
    refine g_iconst (T_X12_closesSums 2 _ _ _ rfl) ⟨by decide, by decide⟩ ?_
    refine g_icmp_lt (tgt := 17) (T_X12_closesSums 3 _ _ _ rfl) (by decide) (fun cc => ?_) (fun cc => ?_)
    · replace H := ite_p cc H
      refine g_weak [true, true] ?_
      exact R_J_X12_closesSums_17 N (L_X12_closesSums_0 N n) ih _ _ _ H
    · replace H := ite_n cc H
      refine g_aload_n (T_X12_closesSums 4 _ _ _ rfl) rfl ?_
      obtain ⟨y4, h3, hq, H⟩ := bd_some H
      refine g_callVi (M' := M_X12_waitTop) (c := 83) (av := []) (st := []) (T_X12_closesSums 5 _ _ _ rfl) ml_X12_199 cb_X12_waitTop rfl rfl (Nat.le_of_ble_eq_true rfl) (by omega) (R_X12_waitTop N _ _ hq) ?_
      refine g_bipush (T_X12_closesSums 6 _ _ _ rfl) (by decide) ?_
      refine g_icmp_le (tgt := 37) (T_X12_closesSums 7 _ _ _ rfl) (by decide) (fun cc => ?_) (fun cc => ?_)
      · replace H := ite_p cc H
        refine g_weak [true, true] ?_
        exact R_J_X12_closesSums_37 N (L_X12_closesSums_0 N n) ih _ _ _ H
      · replace H := ite_n cc H
        refine g_weak [true, true] ?_
        exact R_J_X12_closesSums_17 N (L_X12_closesSums_0 N n) ih _ _ _ H
def F_X12_closesSums (N : Nat) (x1 : Int) (h : Hp) : Option (Hp) :=
  L_X12_closesSums_0 N  N x1 h
set_option maxRecDepth 100000 in
set_option maxHeartbeats 4000000 in
theorem R_X12_closesSums (N : Nat) (x1 : Int) (h : Hp) (res : Hp) (H : F_X12_closesSums N x1 h = some res) : Runs M_X12_closesSums 2 [.inr 84, .inl x1] h (Qv res) := by
  refine Runs.of rfl (Nat.le_of_ble_eq_true rfl) ?_
  show Go M_X12_closesSums 2 0 [some (.inr 84), some (.inl x1)] [] h (Qv res)
  unfold F_X12_closesSums at H
  refine g_weak [true, true] ?_
  refine R_L_X12_closesSums_0 N   _ _ _ _ H
def J_X12_readsSum_138 (N : Nat) (x1 : Int) (h : Hp) : Option (Int × Hp) :=
  bd (F_X12_hasOpenSum N x1 h) fun y2 h1 =>
  if y2 = 0 then
    bv (F_X12_closesSums N 1 h1) fun h3 =>
    some (1, h3)
  else
  bd (F_X12_wrongAt N 1 (h1 83 16) h1) fun y5 h4 =>
  grd (y5 = 0 ∨ y5 = 1) <|
  some (y5, h4)
set_option maxRecDepth 100000 in
set_option maxHeartbeats 4000000 in
theorem R_J_X12_readsSum_138 (N : Nat) (x1 : Int) (h : Hp) (res : Int × Hp) (H : J_X12_readsSum_138 N x1 h = some res) : Go M_X12_readsSum 5 138 [some (.inr 84), some (.inl x1), none] [] h (Qi res) := by
  unfold J_X12_readsSum_138 at H
  refine g_aload_n (T_X12_readsSum 78 _ _ _ rfl) rfl ?_
  refine g_iload_n (T_X12_readsSum 79 _ _ _ rfl) rfl ?_
  obtain ⟨y2, h1, hq, H⟩ := bd_some H
  refine g_callVi (M' := M_X12_hasOpenSum) (c := 83) (av := [.inl x1]) (st := []) (T_X12_readsSum 80 _ _ _ rfl) ml_X12_225 cb_X12_hasOpenSum rfl rfl (Nat.le_of_ble_eq_true rfl) (by omega) (R_X12_hasOpenSum N _ _ _ hq) ?_
  refine g_if_eq (tgt := 156) (T_X12_readsSum 81 _ _ _ rfl) (by decide) (fun cc => ?_) (fun cc => ?_)
  · replace H := ite_p cc H
    refine g_aload_n (T_X12_readsSum 88 _ _ _ rfl) rfl ?_
    refine g_iconst (T_X12_readsSum 89 _ _ _ rfl) ⟨by decide, by decide⟩ ?_
    obtain ⟨h3, hq, H⟩ := bv_some H
    refine g_callVv (M' := M_X12_closesSums) (c := 83) (av := [.inl 1]) (st := []) (T_X12_readsSum 90 _ _ _ rfl) ml_X12_221 cb_X12_closesSums rfl rfl (Nat.le_of_ble_eq_true rfl) (by omega) (R_X12_closesSums N _ _ _ hq) ?_
    refine g_iconst (T_X12_readsSum 91 _ _ _ rfl) ⟨by decide, by decide⟩ ?_
    exact g_zret (T_X12_readsSum 92 _ _ _ rfl) rfl (by decide) (qi_of H)
  · replace H := ite_n cc H
    refine g_aload_n (T_X12_readsSum 82 _ _ _ rfl) rfl ?_
    refine g_iconst (T_X12_readsSum 83 _ _ _ rfl) ⟨by decide, by decide⟩ ?_
    refine g_aload_n (T_X12_readsSum 84 _ _ _ rfl) rfl ?_
    refine g_getI (c := 83) (T_X12_readsSum 85 _ _ _ rfl) fl_X12_166 rfl (Or.inl rfl) ?_
    obtain ⟨y5, h4, hq, H⟩ := bd_some H
    refine g_callVi (M' := M_X12_wrongAt) (c := 83) (av := [.inl 1, .inl (h1 83 16)]) (st := []) (T_X12_readsSum 86 _ _ _ rfl) ml_X12_179 cb_X12_wrongAt rfl rfl (Nat.le_of_ble_eq_true rfl) (by omega) (R_X12_wrongAt N _ _ _ _ hq) ?_
    obtain ⟨hg, H⟩ := grd_some H
    exact g_zret (T_X12_readsSum 87 _ _ _ rfl) rfl hg (qi_of H)
def J_X12_readsSum_38 (N : Nat) (k14 : Int → Hp → Option (Int × Hp)) (x1 : Int) (x2 : Int) (s1 : Int) (h : Hp) : Option (Int × Hp) :=
  bv (F_X12_closesSums N s1 h) fun h1 =>
  grd (0 ≤ (h1 83 22) ∧ (h1 83 22) < 260) <|
  bnd (hw h1 98 (h1 83 22).toNat (w32 (1048576 * x2))) fun h2 =>
  bnd (hw h2 83 22 (w32 ((h2 83 22) + 1))) fun h3 =>
  bnd (hw h3 83 16 (w32 ((h3 83 16) + 1))) fun h4 =>
  bd (F_X12_readsFactor N h4) fun y6 h5 =>
  if y6 = 0 then
    some (0, h5)
  else
  k14 x1 h5
set_option maxRecDepth 100000 in
set_option maxHeartbeats 4000000 in
theorem R_J_X12_readsSum_38 (N : Nat) (k14 : Int → Hp → Option (Int × Hp)) (hk14 : ∀ (x1 : Int) (h : Hp) (res : Int × Hp), k14 x1 h = some res → Go M_X12_readsSum 5 14 [some (.inr 84), some (.inl x1), none] [] h (Qi res)) (x1 : Int) (x2 : Int) (s1 : Int) (h : Hp) (res : Int × Hp) (H : J_X12_readsSum_38 N k14 x1 x2 s1 h = some res) : Go M_X12_readsSum 5 38 [some (.inr 84), some (.inl x1), some (.inl x2)] [.inl s1, .inr 84] h (Qi res) := by
  unfold J_X12_readsSum_38 at H
  obtain ⟨h1, hq, H⟩ := bv_some H
  refine g_callVv (M' := M_X12_closesSums) (c := 83) (av := [.inl s1]) (st := []) (T_X12_readsSum 22 _ _ _ rfl) ml_X12_221 cb_X12_closesSums rfl rfl (Nat.le_of_ble_eq_true rfl) (by omega) (R_X12_closesSums N _ _ _ hq) ?_
  refine g_aload_n (T_X12_readsSum 23 _ _ _ rfl) rfl ?_
  refine g_getR (c := 83) (r := 99) (T_X12_readsSum 24 _ _ _ rfl) fl_X12_53 rfl (nR rfl) rfl (by decide) ?_
  refine g_aload_n (T_X12_readsSum 25 _ _ _ rfl) rfl ?_
  refine g_getI (c := 83) (T_X12_readsSum 26 _ _ _ rfl) fl_X12_196 rfl (Or.inl rfl) ?_
  refine g_ldc (T_X12_readsSum 27 _ _ _ rfl) kc_X12_192 ⟨by decide, by decide⟩ ?_
  refine g_iload_n (T_X12_readsSum 28 _ _ _ rfl) rfl ?_
  refine g_imul (T_X12_readsSum 29 _ _ _ rfl) ?_
  obtain ⟨hg, H⟩ := grd_some H
  refine g_iast (c := 98) (T_X12_readsSum 30 _ _ _ rfl) rfl hg ?_
  refine g_bndH H fun h2 H => ?_
  refine g_aload_n (T_X12_readsSum 31 _ _ _ rfl) rfl ?_
  refine g_aload_n (T_X12_readsSum 32 _ _ _ rfl) rfl ?_
  refine g_getI (c := 83) (T_X12_readsSum 33 _ _ _ rfl) fl_X12_196 rfl (Or.inl rfl) ?_
  refine g_iconst (T_X12_readsSum 34 _ _ _ rfl) ⟨by decide, by decide⟩ ?_
  refine g_iadd (T_X12_readsSum 35 _ _ _ rfl) ?_
  refine g_put (c := 83) (T_X12_readsSum 36 _ _ _ rfl) fl_X12_196 rfl (Or.inl rfl) ?_
  refine g_bndH H fun h3 H => ?_
  refine g_aload_n (T_X12_readsSum 37 _ _ _ rfl) rfl ?_
  refine g_aload_n (T_X12_readsSum 38 _ _ _ rfl) rfl ?_
  refine g_getI (c := 83) (T_X12_readsSum 39 _ _ _ rfl) fl_X12_166 rfl (Or.inl rfl) ?_
  refine g_iconst (T_X12_readsSum 40 _ _ _ rfl) ⟨by decide, by decide⟩ ?_
  refine g_iadd (T_X12_readsSum 41 _ _ _ rfl) ?_
  refine g_put (c := 83) (T_X12_readsSum 42 _ _ _ rfl) fl_X12_166 rfl (Or.inl rfl) ?_
  refine g_bndH H fun h4 H => ?_
  refine g_aload_n (T_X12_readsSum 43 _ _ _ rfl) rfl ?_
  obtain ⟨y6, h5, hq, H⟩ := bd_some H
  refine g_callVi (M' := M_X12_readsFactor) (c := 83) (av := []) (st := []) (T_X12_readsSum 44 _ _ _ rfl) ml_X12_215 cb_X12_readsFactor rfl rfl (Nat.le_of_ble_eq_true rfl) (by omega) (R_X12_readsFactor N _ _ hq) ?_
  refine g_if_ne (tgt := 163) (T_X12_readsSum 45 _ _ _ rfl) (by decide) (fun cc => ?_) (fun cc => ?_)
  · replace H := ite_n cc H
    refine g_goto (tgt := 14) (T_X12_readsSum 93 _ _ _ rfl) (by decide) ?_
    refine g_weak [true, true, false] ?_
    exact hk14 _ _ _ H
  · replace H := ite_p cc H
    refine g_iconst (T_X12_readsSum 46 _ _ _ rfl) ⟨by decide, by decide⟩ ?_
    exact g_zret (T_X12_readsSum 47 _ _ _ rfl) rfl (by decide) (qi_of H)
def L_X12_readsSum_14 (N : Nat) : Nat → Int → Hp → Option (Int × Hp)
  | 0, _, _ => none
  | n + 1, x1, h =>
    bd (F_X12_here N h) fun y2 h1 =>
    bd (F_X12_sumSign N y2 h1) fun y4 h3 =>
    if y4 = (-1) then
      bd (F_X12_here N h3) fun y6 h5 =>
      if y6 = 93 then
        bd (F_X12_hasOpenSum N x1 h5) fun y8 h7 =>
        if y8 = 0 then
          J_X12_readsSum_138 N  x1 h7
        else
        bv (F_X12_closesSums N 1 h7) fun h9 =>
        bnd (hw h9 83 22 (w32 ((h9 83 22) - 1))) fun h10 =>
        bnd (hw h10 83 20 (w32 ((h10 83 20) - 1))) fun h11 =>
        bnd (hw h11 83 16 (w32 ((h11 83 16) + 1))) fun h12 =>
        (L_X12_readsSum_14 N n) x1 h12
      else
      J_X12_readsSum_138 N  x1 h5
    else
    if 4 ≤ y4 then
      J_X12_readsSum_38 N (L_X12_readsSum_14 N n) x1 y4 0 h3
    else
    J_X12_readsSum_38 N (L_X12_readsSum_14 N n) x1 y4 1 h3
set_option maxRecDepth 100000 in
set_option maxHeartbeats 4000000 in
theorem R_L_X12_readsSum_14 (N : Nat) : ∀ (n : Nat) (x1 : Int) (h : Hp) (res : Int × Hp), L_X12_readsSum_14 N n x1 h = some res → Go M_X12_readsSum 5 14 [some (.inr 84), some (.inl x1), none] [] h (Qi res)
  | 0, _, _, _, H => by cases H
  | n + 1, x1, h, res, H => by
    have ih := R_L_X12_readsSum_14 N n
    simp only [L_X12_readsSum_14] at H
    refine g_aload_n (T_X12_readsSum 8 _ _ _ rfl) rfl ?_
    obtain ⟨y2, h1, hq, H⟩ := bd_some H
    refine g_callVi (M' := M_X12_here) (c := 83) (av := []) (st := []) (T_X12_readsSum 9 _ _ _ rfl) ml_X12_172 cb_X12_here rfl rfl (Nat.le_of_ble_eq_true rfl) (by omega) (R_X12_here N _ _ hq) ?_
    obtain ⟨y4, h3, hq, H⟩ := bd_some H
    refine g_callSi (M' := M_X12_sumSign) (av := [.inl y2]) (st := []) (T_X12_readsSum 10 _ _ _ rfl) ml_X12_218 cb_X12_sumSign rfl (Nat.le_of_ble_eq_true rfl) (by omega) (R_X12_sumSign N _ _ _ hq) ?_
    refine g_istore_n (T_X12_readsSum 11 _ _ _ rfl) (by decide) ?_
    refine g_iload_n (T_X12_readsSum 12 _ _ _ rfl) rfl ?_
    refine g_iconst (T_X12_readsSum 13 _ _ _ rfl) ⟨by decide, by decide⟩ ?_
    refine g_icmp_eq (tgt := 83) (T_X12_readsSum 14 _ _ _ rfl) (by decide) (fun cc => ?_) (fun cc => ?_)
    · replace H := ite_p cc H
      refine g_aload_n (T_X12_readsSum 48 _ _ _ rfl) rfl ?_
      obtain ⟨y6, h5, hq, H⟩ := bd_some H
      refine g_callVi (M' := M_X12_here) (c := 83) (av := []) (st := []) (T_X12_readsSum 49 _ _ _ rfl) ml_X12_172 cb_X12_here rfl rfl (Nat.le_of_ble_eq_true rfl) (by omega) (R_X12_here N _ _ hq) ?_
      refine g_bipush (T_X12_readsSum 50 _ _ _ rfl) (by decide) ?_
      refine g_icmp_ne (tgt := 138) (T_X12_readsSum 51 _ _ _ rfl) (by decide) (fun cc => ?_) (fun cc => ?_)
      · replace H := ite_n cc H
        refine g_weak [true, true, false] ?_
        exact R_J_X12_readsSum_138 N   _ _ _ H
      · replace H := ite_p cc H
        refine g_aload_n (T_X12_readsSum 52 _ _ _ rfl) rfl ?_
        refine g_iload_n (T_X12_readsSum 53 _ _ _ rfl) rfl ?_
        obtain ⟨y8, h7, hq, H⟩ := bd_some H
        refine g_callVi (M' := M_X12_hasOpenSum) (c := 83) (av := [.inl x1]) (st := []) (T_X12_readsSum 54 _ _ _ rfl) ml_X12_225 cb_X12_hasOpenSum rfl rfl (Nat.le_of_ble_eq_true rfl) (by omega) (R_X12_hasOpenSum N _ _ _ hq) ?_
        refine g_if_eq (tgt := 138) (T_X12_readsSum 55 _ _ _ rfl) (by decide) (fun cc => ?_) (fun cc => ?_)
        · replace H := ite_p cc H
          refine g_weak [true, true, false] ?_
          exact R_J_X12_readsSum_138 N   _ _ _ H
        · replace H := ite_n cc H
          refine g_aload_n (T_X12_readsSum 56 _ _ _ rfl) rfl ?_
          refine g_iconst (T_X12_readsSum 57 _ _ _ rfl) ⟨by decide, by decide⟩ ?_
          obtain ⟨h9, hq, H⟩ := bv_some H
          refine g_callVv (M' := M_X12_closesSums) (c := 83) (av := [.inl 1]) (st := []) (T_X12_readsSum 58 _ _ _ rfl) ml_X12_221 cb_X12_closesSums rfl rfl (Nat.le_of_ble_eq_true rfl) (by omega) (R_X12_closesSums N _ _ _ hq) ?_
          refine g_aload_n (T_X12_readsSum 59 _ _ _ rfl) rfl ?_
          refine g_aload_n (T_X12_readsSum 60 _ _ _ rfl) rfl ?_
          refine g_getI (c := 83) (T_X12_readsSum 61 _ _ _ rfl) fl_X12_196 rfl (Or.inl rfl) ?_
          refine g_iconst (T_X12_readsSum 62 _ _ _ rfl) ⟨by decide, by decide⟩ ?_
          refine g_isub (T_X12_readsSum 63 _ _ _ rfl) ?_
          refine g_put (c := 83) (T_X12_readsSum 64 _ _ _ rfl) fl_X12_196 rfl (Or.inl rfl) ?_
          refine g_bndH H fun h10 H => ?_
          refine g_aload_n (T_X12_readsSum 65 _ _ _ rfl) rfl ?_
          refine g_aload_n (T_X12_readsSum 66 _ _ _ rfl) rfl ?_
          refine g_getI (c := 83) (T_X12_readsSum 67 _ _ _ rfl) fl_X12_193 rfl (Or.inl rfl) ?_
          refine g_iconst (T_X12_readsSum 68 _ _ _ rfl) ⟨by decide, by decide⟩ ?_
          refine g_isub (T_X12_readsSum 69 _ _ _ rfl) ?_
          refine g_put (c := 83) (T_X12_readsSum 70 _ _ _ rfl) fl_X12_193 rfl (Or.inl rfl) ?_
          refine g_bndH H fun h11 H => ?_
          refine g_aload_n (T_X12_readsSum 71 _ _ _ rfl) rfl ?_
          refine g_aload_n (T_X12_readsSum 72 _ _ _ rfl) rfl ?_
          refine g_getI (c := 83) (T_X12_readsSum 73 _ _ _ rfl) fl_X12_166 rfl (Or.inl rfl) ?_
          refine g_iconst (T_X12_readsSum 74 _ _ _ rfl) ⟨by decide, by decide⟩ ?_
          refine g_iadd (T_X12_readsSum 75 _ _ _ rfl) ?_
          refine g_put (c := 83) (T_X12_readsSum 76 _ _ _ rfl) fl_X12_166 rfl (Or.inl rfl) ?_
          refine g_bndH H fun h12 H => ?_
          refine g_goto (tgt := 163) (T_X12_readsSum 77 _ _ _ rfl) (by decide) ?_
          refine g_goto (tgt := 14) (T_X12_readsSum 93 _ _ _ rfl) (by decide) ?_
          refine g_weak [true, true, false] ?_
          exact ih _ _ _ H
    · replace H := ite_n cc H
      refine g_aload_n (T_X12_readsSum 15 _ _ _ rfl) rfl ?_
      refine g_iload_n (T_X12_readsSum 16 _ _ _ rfl) rfl ?_
      refine g_iconst (T_X12_readsSum 17 _ _ _ rfl) ⟨by decide, by decide⟩ ?_
      refine g_icmp_ge (tgt := 37) (T_X12_readsSum 18 _ _ _ rfl) (by decide) (fun cc => ?_) (fun cc => ?_)
      · replace H := ite_p cc H
        refine g_iconst (T_X12_readsSum 21 _ _ _ rfl) ⟨by decide, by decide⟩ ?_
        refine g_weak [true, true, true] ?_
        exact R_J_X12_readsSum_38 N (L_X12_readsSum_14 N n) ih _ _ _ _ _ H
      · replace H := ite_n cc H
        refine g_iconst (T_X12_readsSum 19 _ _ _ rfl) ⟨by decide, by decide⟩ ?_
        refine g_goto (tgt := 38) (T_X12_readsSum 20 _ _ _ rfl) (by decide) ?_
        refine g_weak [true, true, true] ?_
        exact R_J_X12_readsSum_38 N (L_X12_readsSum_14 N n) ih _ _ _ _ _ H
def F_X12_readsSum (N : Nat) (h : Hp) : Option (Int × Hp) :=
  bnd ((h 83 22)) fun y1 =>
  bd (F_X12_readsFactor N h) fun y3 h2 =>
  if y3 = 0 then
    some (0, h2)
  else
  L_X12_readsSum_14 N  N y1 h2
set_option maxRecDepth 100000 in
set_option maxHeartbeats 4000000 in
theorem R_X12_readsSum (N : Nat) (h : Hp) (res : Int × Hp) (H : F_X12_readsSum N h = some res) : Runs M_X12_readsSum 5 [.inr 84] h (Qi res) := by
  refine Runs.of rfl (Nat.le_of_ble_eq_true rfl) ?_
  show Go M_X12_readsSum 5 0 [some (.inr 84), none, none] [] h (Qi res)
  unfold F_X12_readsSum at H
  refine g_aload_n (T_X12_readsSum 0 _ _ _ rfl) rfl ?_
  refine g_getI (c := 83) (T_X12_readsSum 1 _ _ _ rfl) fl_X12_196 rfl (Or.inl rfl) ?_
  refine g_bndI H fun y1 H => ?_
  refine g_istore_n (T_X12_readsSum 2 _ _ _ rfl) (by decide) ?_
  refine g_aload_n (T_X12_readsSum 3 _ _ _ rfl) rfl ?_
  obtain ⟨y3, h2, hq, H⟩ := bd_some H
  refine g_callVi (M' := M_X12_readsFactor) (c := 83) (av := []) (st := []) (T_X12_readsSum 4 _ _ _ rfl) ml_X12_215 cb_X12_readsFactor rfl rfl (Nat.le_of_ble_eq_true rfl) (by omega) (R_X12_readsFactor N _ _ hq) ?_
  refine g_if_ne (tgt := 14) (T_X12_readsSum 5 _ _ _ rfl) (by decide) (fun cc => ?_) (fun cc => ?_)
  · replace H := ite_n cc H
    refine g_weak [true, true, false] ?_
    refine R_L_X12_readsSum_14 N   _ _ _ _ H
  · replace H := ite_p cc H
    refine g_iconst (T_X12_readsSum 6 _ _ _ rfl) ⟨by decide, by decide⟩ ?_
    exact g_zret (T_X12_readsSum 7 _ _ _ rfl) rfl (by decide) (qi_of H)
def L_X12_endsPiece_0 (N : Nat) : Nat → Hp → Option (Hp)
  | 0, _ => none
  | n + 1, h =>
    bd (F_X12_waitTop N h) fun y2 h1 =>
    if y2 = 10 then
      bv (F_X12_notes N 10 0 h1) fun h3 =>
      bnd (hw h3 83 22 (w32 ((h3 83 22) - 1))) fun h4 =>
      bnd (hw h4 83 20 (w32 ((h4 83 20) - 1))) fun h5 =>
      (L_X12_endsPiece_0 N n) h5
    else
    some h1
set_option maxRecDepth 100000 in
set_option maxHeartbeats 4000000 in
theorem R_L_X12_endsPiece_0 (N : Nat) : ∀ (n : Nat) (h : Hp) (res : Hp), L_X12_endsPiece_0 N n h = some res → Go M_X12_endsPiece 2 0 [some (.inr 84)] [] h (Qv res)
  | 0, _, _, H => by cases H
  | n + 1, h, res, H => by
    have ih := R_L_X12_endsPiece_0 N n
    simp only [L_X12_endsPiece_0] at H
    refine g_aload_n (T_X12_endsPiece 0 _ _ _ rfl) rfl ?_
    obtain ⟨y2, h1, hq, H⟩ := bd_some H
    refine g_callVi (M' := M_X12_waitTop) (c := 83) (av := []) (st := []) (T_X12_endsPiece 1 _ _ _ rfl) ml_X12_199 cb_X12_waitTop rfl rfl (Nat.le_of_ble_eq_true rfl) (by omega) (R_X12_waitTop N _ _ hq) ?_
    refine g_bipush (T_X12_endsPiece 2 _ _ _ rfl) (by decide) ?_
    refine g_icmp_ne (tgt := 39) (T_X12_endsPiece 3 _ _ _ rfl) (by decide) (fun cc => ?_) (fun cc => ?_)
    · replace H := ite_n cc H
      exact g_vret (T_X12_endsPiece 21 _ _ _ rfl) rfl (qv_of H)
    · replace H := ite_p cc H
      refine g_aload_n (T_X12_endsPiece 4 _ _ _ rfl) rfl ?_
      refine g_bipush (T_X12_endsPiece 5 _ _ _ rfl) (by decide) ?_
      refine g_iconst (T_X12_endsPiece 6 _ _ _ rfl) ⟨by decide, by decide⟩ ?_
      obtain ⟨h3, hq, H⟩ := bv_some H
      refine g_callVv (M' := M_X12_notes) (c := 83) (av := [.inl 10, .inl 0]) (st := []) (T_X12_endsPiece 7 _ _ _ rfl) ml_X12_202 cb_X12_notes rfl rfl (Nat.le_of_ble_eq_true rfl) (by omega) (R_X12_notes N _ _ _ _ hq) ?_
      refine g_aload_n (T_X12_endsPiece 8 _ _ _ rfl) rfl ?_
      refine g_aload_n (T_X12_endsPiece 9 _ _ _ rfl) rfl ?_
      refine g_getI (c := 83) (T_X12_endsPiece 10 _ _ _ rfl) fl_X12_196 rfl (Or.inl rfl) ?_
      refine g_iconst (T_X12_endsPiece 11 _ _ _ rfl) ⟨by decide, by decide⟩ ?_
      refine g_isub (T_X12_endsPiece 12 _ _ _ rfl) ?_
      refine g_put (c := 83) (T_X12_endsPiece 13 _ _ _ rfl) fl_X12_196 rfl (Or.inl rfl) ?_
      refine g_bndH H fun h4 H => ?_
      refine g_aload_n (T_X12_endsPiece 14 _ _ _ rfl) rfl ?_
      refine g_aload_n (T_X12_endsPiece 15 _ _ _ rfl) rfl ?_
      refine g_getI (c := 83) (T_X12_endsPiece 16 _ _ _ rfl) fl_X12_193 rfl (Or.inl rfl) ?_
      refine g_iconst (T_X12_endsPiece 17 _ _ _ rfl) ⟨by decide, by decide⟩ ?_
      refine g_isub (T_X12_endsPiece 18 _ _ _ rfl) ?_
      refine g_put (c := 83) (T_X12_endsPiece 19 _ _ _ rfl) fl_X12_193 rfl (Or.inl rfl) ?_
      refine g_bndH H fun h5 H => ?_
      refine g_goto (tgt := 0) (T_X12_endsPiece 20 _ _ _ rfl) (by decide) ?_
      refine g_weak [true] ?_
      exact ih _ _ H
def F_X12_endsPiece (N : Nat) (h : Hp) : Option (Hp) :=
  L_X12_endsPiece_0 N  N h
set_option maxRecDepth 100000 in
set_option maxHeartbeats 4000000 in
theorem R_X12_endsPiece (N : Nat) (h : Hp) (res : Hp) (H : F_X12_endsPiece N h = some res) : Runs M_X12_endsPiece 2 [.inr 84] h (Qv res) := by
  refine Runs.of rfl (Nat.le_of_ble_eq_true rfl) ?_
  show Go M_X12_endsPiece 2 0 [some (.inr 84)] [] h (Qv res)
  unfold F_X12_endsPiece at H
  refine g_weak [true] ?_
  refine R_L_X12_endsPiece_0 N   _ _ _ H
