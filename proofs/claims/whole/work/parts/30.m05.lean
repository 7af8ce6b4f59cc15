/-! by program: the methods as functions, and the walks that show it -/
def J_X12_oneStop_220 (N : Nat) (k162 : Int → Int → Int → Int → Int → Int → Int → Int → Int → Int → Int → Int → Hp → Option (Int × Hp)) (x1 : Int) (x3 : Int) (x5 : Int) (x6 : Int) (x7 : Int) (x8 : Int) (x9 : Int) (x10 : Int) (x11 : Int) (x12 : Int) (x13 : Int) (x14 : Int) (h : Hp) : Option (Int × Hp) :=
  bnd (w32 (x14 + 1)) fun y1 =>
  k162 x1 x3 x5 x6 x7 x8 x9 x10 x11 x12 x13 y1 h
set_option maxRecDepth 100000 in
set_option maxHeartbeats 4000000 in
theorem R_J_X12_oneStop_220 (N : Nat) (k162 : Int → Int → Int → Int → Int → Int → Int → Int → Int → Int → Int → Int → Hp → Option (Int × Hp)) (hk162 : ∀ (x1 : Int) (x3 : Int) (x5 : Int) (x6 : Int) (x7 : Int) (x8 : Int) (x9 : Int) (x10 : Int) (x11 : Int) (x12 : Int) (x13 : Int) (x14 : Int) (h : Hp) (res : Int × Hp), k162 x1 x3 x5 x6 x7 x8 x9 x10 x11 x12 x13 x14 h = some res → Go M_X12_oneStop 8 162 [some (.inr 84), some (.inl x1), none, some (.inl x3), some (.inr 95), some (.inl x5), some (.inl x6), some (.inl x7), some (.inl x8), some (.inl x9), some (.inl x10), some (.inl x11), some (.inl x12), some (.inl x13), some (.inl x14), none] [] h (Qi res)) (x1 : Int) (x3 : Int) (x5 : Int) (x6 : Int) (x7 : Int) (x8 : Int) (x9 : Int) (x10 : Int) (x11 : Int) (x12 : Int) (x13 : Int) (x14 : Int) (h : Hp) (res : Int × Hp) (H : J_X12_oneStop_220 N k162 x1 x3 x5 x6 x7 x8 x9 x10 x11 x12 x13 x14 h = some res) : Go M_X12_oneStop 8 220 [some (.inr 84), some (.inl x1), none, some (.inl x3), some (.inr 95), some (.inl x5), some (.inl x6), some (.inl x7), some (.inl x8), some (.inl x9), some (.inl x10), some (.inl x11), some (.inl x12), some (.inl x13), some (.inl x14), none] [] h (Qi res) := by
  unfold J_X12_oneStop_220 at H
  refine g_iincB (T_X12_oneStop 124 _ _ _ rfl) rfl (by decide) H fun y1 H => ?_
  refine g_goto (tgt := 162) (T_X12_oneStop 125 _ _ _ rfl) (by decide) ?_
  refine g_weak [true, true, false, true, true, true, true, true, true, true, true, true, true, true, true, false] ?_
  exact hk162 _ _ _ _ _ _ _ _ _ _ _ _ _ _ H
def J_X12_oneStop_212 (N : Nat) (k162 : Int → Int → Int → Int → Int → Int → Int → Int → Int → Int → Int → Int → Hp → Option (Int × Hp)) (x1 : Int) (x3 : Int) (x5 : Int) (x6 : Int) (x7 : Int) (x8 : Int) (x9 : Int) (x10 : Int) (x11 : Int) (x14 : Int) (x15 : Int) (h : Hp) : Option (Int × Hp) :=
  J_X12_oneStop_220 N k162 x1 x3 x5 x6 x7 x8 x9 x10 x11 x14 x15 x14 h
set_option maxRecDepth 100000 in
set_option maxHeartbeats 4000000 in
theorem R_J_X12_oneStop_212 (N : Nat) (k162 : Int → Int → Int → Int → Int → Int → Int → Int → Int → Int → Int → Int → Hp → Option (Int × Hp)) (hk162 : ∀ (x1 : Int) (x3 : Int) (x5 : Int) (x6 : Int) (x7 : Int) (x8 : Int) (x9 : Int) (x10 : Int) (x11 : Int) (x12 : Int) (x13 : Int) (x14 : Int) (h : Hp) (res : Int × Hp), k162 x1 x3 x5 x6 x7 x8 x9 x10 x11 x12 x13 x14 h = some res → Go M_X12_oneStop 8 162 [some (.inr 84), some (.inl x1), none, some (.inl x3), some (.inr 95), some (.inl x5), some (.inl x6), some (.inl x7), some (.inl x8), some (.inl x9), some (.inl x10), some (.inl x11), some (.inl x12), some (.inl x13), some (.inl x14), none] [] h (Qi res)) (x1 : Int) (x3 : Int) (x5 : Int) (x6 : Int) (x7 : Int) (x8 : Int) (x9 : Int) (x10 : Int) (x11 : Int) (x14 : Int) (x15 : Int) (h : Hp) (res : Int × Hp) (H : J_X12_oneStop_212 N k162 x1 x3 x5 x6 x7 x8 x9 x10 x11 x14 x15 h = some res) : Go M_X12_oneStop 8 212 [some (.inr 84), some (.inl x1), none, some (.inl x3), some (.inr 95), some (.inl x5), some (.inl x6), some (.inl x7), some (.inl x8), some (.inl x9), some (.inl x10), some (.inl x11), none, none, some (.inl x14), some (.inl x15)] [] h (Qi res) := by
  unfold J_X12_oneStop_212 at H
  refine g_iload (T_X12_oneStop 120 _ _ _ rfl) rfl ?_
  refine g_istore (T_X12_oneStop 121 _ _ _ rfl) (by decide) ?_
  refine g_iload (T_X12_oneStop 122 _ _ _ rfl) rfl ?_
  refine g_istore (T_X12_oneStop 123 _ _ _ rfl) (by decide) ?_
  refine g_weak [true, true, false, true, true, true, true, true, true, true, true, true, true, true, true, false] ?_
  exact R_J_X12_oneStop_220 N k162 hk162 _ _ _ _ _ _ _ _ _ _ _ _ _ _ H
def L_X12_oneStop_162 (N : Nat) : Nat → Int → Int → Int → Int → Int → Int → Int → Int → Int → Int → Int → Int → Hp → Option (Int × Hp)
  | 0, _, _, _, _, _, _, _, _, _, _, _, _, _ => none
  | n + 1, x1, x3, x5, x6, x7, x8, x9, x10, x11, x12, x13, x14, h =>
    if 14 ≤ x14 then
      bnd (hw h 83 13 x11) fun h1 =>
      grd (0 ≤ x1 ∧ x1 < 5) <|
      bnd (hw h1 93 x1.toNat x6) fun h2 =>
      grd (0 ≤ x5 ∧ x5 < 80) <|
      bnd (hw h2 94 x5.toNat x7) fun h3 =>
      grd (0 ≤ (w32 (x5 + 1)) ∧ (w32 (x5 + 1)) < 80) <|
      bnd (hw h3 94 (w32 (x5 + 1)).toNat x8) fun h4 =>
      grd (0 ≤ x5 ∧ x5 < 80) <|
      bnd (hw h4 95 x5.toNat x9) fun h5 =>
      grd (0 ≤ (w32 (x5 + 1)) ∧ (w32 (x5 + 1)) < 80) <|
      bnd (hw h5 95 (w32 (x5 + 1)).toNat x10) fun h6 =>
      if x3 = 0 then
        some (x12, h6)
      else
      some (x13, h6)
    else
    bd (F_X12_isStreet N x14 h) fun y8 h7 =>
    if y8 = 0 then
      J_X12_oneStop_220 N (L_X12_oneStop_162 N n) x1 x3 x5 x6 x7 x8 x9 x10 x11 x12 x13 x14 h7
    else
    grd (0 ≤ (w32 (x5 + 1)) ∧ (w32 (x5 + 1)) < 80) <|
    bnd (hw h7 94 (w32 (x5 + 1)).toNat x14) fun h9 =>
    bd (F_X12_sleptBy N h9) fun y11 h10 =>
    if x12 = (-1) then
      J_X12_oneStop_212 N (L_X12_oneStop_162 N n) x1 x3 x5 x6 x7 x8 x9 x10 x11 x14 y11 h10
    else
    if x13 < y11 then
      J_X12_oneStop_212 N (L_X12_oneStop_162 N n) x1 x3 x5 x6 x7 x8 x9 x10 x11 x14 y11 h10
    else
    J_X12_oneStop_220 N (L_X12_oneStop_162 N n) x1 x3 x5 x6 x7 x8 x9 x10 x11 x12 x13 x14 h10
set_option maxRecDepth 100000 in
set_option maxHeartbeats 4000000 in
theorem R_L_X12_oneStop_162 (N : Nat) : ∀ (n : Nat) (x1 : Int) (x3 : Int) (x5 : Int) (x6 : Int) (x7 : Int) (x8 : Int) (x9 : Int) (x10 : Int) (x11 : Int) (x12 : Int) (x13 : Int) (x14 : Int) (h : Hp) (res : Int × Hp), L_X12_oneStop_162 N n x1 x3 x5 x6 x7 x8 x9 x10 x11 x12 x13 x14 h = some res → Go M_X12_oneStop 8 162 [some (.inr 84), some (.inl x1), none, some (.inl x3), some (.inr 95), some (.inl x5), some (.inl x6), some (.inl x7), some (.inl x8), some (.inl x9), some (.inl x10), some (.inl x11), some (.inl x12), some (.inl x13), some (.inl x14), none] [] h (Qi res)
  | 0, _, _, _, _, _, _, _, _, _, _, _, _, _, _, H => by cases H
  | n + 1, x1, x3, x5, x6, x7, x8, x9, x10, x11, x12, x13, x14, h, res, H => by
    have ih := R_L_X12_oneStop_162 N n
    simp only [L_X12_oneStop_162] at H
    refine g_iload (T_X12_oneStop 96 _ _ _ rfl) rfl ?_
    refine g_bipush (T_X12_oneStop 97 _ _ _ rfl) (by decide) ?_
    refine g_icmp_ge (tgt := 226) (T_X12_oneStop 98 _ _ _ rfl) (by decide) (fun cc => ?_) (fun cc => ?_)
    · replace H := ite_p cc H
      refine g_aload_n (T_X12_oneStop 126 _ _ _ rfl) rfl ?_
      refine g_iload (T_X12_oneStop 127 _ _ _ rfl) rfl ?_
      refine g_put (c := 83) (T_X12_oneStop 128 _ _ _ rfl) fl_X12_143 rfl (Or.inl rfl) ?_
      refine g_bndH H fun h1 H => ?_
      refine g_aload_n (T_X12_oneStop 129 _ _ _ rfl) rfl ?_
      refine g_getR (c := 83) (r := 94) (T_X12_oneStop 130 _ _ _ rfl) fl_X12_37 rfl (nR rfl) rfl (by decide) ?_
      refine g_iload_n (T_X12_oneStop 131 _ _ _ rfl) rfl ?_
      refine g_iload (T_X12_oneStop 132 _ _ _ rfl) rfl ?_
      obtain ⟨hg, H⟩ := grd_some H
      refine g_iast (c := 93) (T_X12_oneStop 133 _ _ _ rfl) rfl hg ?_
      refine g_bndH H fun h2 H => ?_
      refine g_aload (T_X12_oneStop 134 _ _ _ rfl) rfl ?_
      refine g_iload (T_X12_oneStop 135 _ _ _ rfl) rfl ?_
      refine g_iload (T_X12_oneStop 136 _ _ _ rfl) rfl ?_
      obtain ⟨hg, H⟩ := grd_some H
      refine g_iast (c := 94) (T_X12_oneStop 137 _ _ _ rfl) rfl hg ?_
      refine g_bndH H fun h3 H => ?_
      refine g_aload (T_X12_oneStop 138 _ _ _ rfl) rfl ?_
      refine g_iload (T_X12_oneStop 139 _ _ _ rfl) rfl ?_
      refine g_iconst (T_X12_oneStop 140 _ _ _ rfl) ⟨by decide, by decide⟩ ?_
      refine g_iadd (T_X12_oneStop 141 _ _ _ rfl) ?_
      refine g_iload (T_X12_oneStop 142 _ _ _ rfl) rfl ?_
      obtain ⟨hg, H⟩ := grd_some H
      refine g_iast (c := 94) (T_X12_oneStop 143 _ _ _ rfl) rfl hg ?_
      refine g_bndH H fun h4 H => ?_
      refine g_aload_n (T_X12_oneStop 144 _ _ _ rfl) rfl ?_
      refine g_getR (c := 83) (r := 96) (T_X12_oneStop 145 _ _ _ rfl) fl_X12_43 rfl (nR rfl) rfl (by decide) ?_
      refine g_iload (T_X12_oneStop 146 _ _ _ rfl) rfl ?_
      refine g_iload (T_X12_oneStop 147 _ _ _ rfl) rfl ?_
      obtain ⟨hg, H⟩ := grd_some H
      refine g_iast (c := 95) (T_X12_oneStop 148 _ _ _ rfl) rfl hg ?_
      refine g_bndH H fun h5 H => ?_
      refine g_aload_n (T_X12_oneStop 149 _ _ _ rfl) rfl ?_
      refine g_getR (c := 83) (r := 96) (T_X12_oneStop 150 _ _ _ rfl) fl_X12_43 rfl (nR rfl) rfl (by decide) ?_
      refine g_iload (T_X12_oneStop 151 _ _ _ rfl) rfl ?_
      refine g_iconst (T_X12_oneStop 152 _ _ _ rfl) ⟨by decide, by decide⟩ ?_
      refine g_iadd (T_X12_oneStop 153 _ _ _ rfl) ?_
      refine g_iload (T_X12_oneStop 154 _ _ _ rfl) rfl ?_
      obtain ⟨hg, H⟩ := grd_some H
      refine g_iast (c := 95) (T_X12_oneStop 155 _ _ _ rfl) rfl hg ?_
      refine g_bndH H fun h6 H => ?_
      refine g_iload_n (T_X12_oneStop 156 _ _ _ rfl) rfl ?_
      refine g_if_ne (tgt := 285) (T_X12_oneStop 157 _ _ _ rfl) (by decide) (fun cc => ?_) (fun cc => ?_)
      · replace H := ite_n cc H
        refine g_iload (T_X12_oneStop 160 _ _ _ rfl) rfl ?_
        exact g_iret (T_X12_oneStop 161 _ _ _ rfl) rfl (qi_of H)
      · replace H := ite_p cc H
        refine g_iload (T_X12_oneStop 158 _ _ _ rfl) rfl ?_
        refine g_goto (tgt := 287) (T_X12_oneStop 159 _ _ _ rfl) (by decide) ?_
        exact g_iret (T_X12_oneStop 161 _ _ _ rfl) rfl (qi_of H)
    · replace H := ite_n cc H
      refine g_aload_n (T_X12_oneStop 99 _ _ _ rfl) rfl ?_
      refine g_iload (T_X12_oneStop 100 _ _ _ rfl) rfl ?_
      obtain ⟨y8, h7, hq, H⟩ := bd_some H
      refine g_callVi (M' := M_X12_isStreet) (c := 83) (av := [.inl x14]) (st := []) (T_X12_oneStop 101 _ _ _ rfl) ml_X12_146 cb_X12_isStreet rfl rfl (Nat.le_of_ble_eq_true rfl) (by omega) (R_X12_isStreet N _ _ _ hq) ?_
      refine g_if_ne (tgt := 181) (T_X12_oneStop 102 _ _ _ rfl) (by decide) (fun cc => ?_) (fun cc => ?_)
      · replace H := ite_n cc H
        refine g_aload (T_X12_oneStop 104 _ _ _ rfl) rfl ?_
        refine g_iload (T_X12_oneStop 105 _ _ _ rfl) rfl ?_
        refine g_iconst (T_X12_oneStop 106 _ _ _ rfl) ⟨by decide, by decide⟩ ?_
        refine g_iadd (T_X12_oneStop 107 _ _ _ rfl) ?_
        refine g_iload (T_X12_oneStop 108 _ _ _ rfl) rfl ?_
        obtain ⟨hg, H⟩ := grd_some H
        refine g_iast (c := 94) (T_X12_oneStop 109 _ _ _ rfl) rfl hg ?_
        refine g_bndH H fun h9 H => ?_
        refine g_aload_n (T_X12_oneStop 110 _ _ _ rfl) rfl ?_
        obtain ⟨y11, h10, hq, H⟩ := bd_some H
        refine g_callVi (M' := M_X12_sleptBy) (c := 83) (av := []) (st := []) (T_X12_oneStop 111 _ _ _ rfl) ml_X12_342 cb_X12_sleptBy rfl rfl (Nat.le_of_ble_eq_true rfl) (by omega) (R_X12_sleptBy N _ _ hq) ?_
        refine g_istore (T_X12_oneStop 112 _ _ _ rfl) (by decide) ?_
        refine g_iload (T_X12_oneStop 113 _ _ _ rfl) rfl ?_
        refine g_iconst (T_X12_oneStop 114 _ _ _ rfl) ⟨by decide, by decide⟩ ?_
        refine g_icmp_eq (tgt := 212) (T_X12_oneStop 115 _ _ _ rfl) (by decide) (fun cc => ?_) (fun cc => ?_)
        · replace H := ite_p cc H
          refine g_weak [true, true, false, true, true, true, true, true, true, true, true, true, false, false, true, true] ?_
          exact R_J_X12_oneStop_212 N (L_X12_oneStop_162 N n) ih _ _ _ _ _ _ _ _ _ _ _ _ _ H
        · replace H := ite_n cc H
          refine g_iload (T_X12_oneStop 116 _ _ _ rfl) rfl ?_
          refine g_iload (T_X12_oneStop 117 _ _ _ rfl) rfl ?_
          refine g_icmp_gt (tgt := 212) (T_X12_oneStop 118 _ _ _ rfl) (by decide) (fun cc => ?_) (fun cc => ?_)
          · replace H := ite_p cc H
            refine g_weak [true, true, false, true, true, true, true, true, true, true, true, true, false, false, true, true] ?_
            exact R_J_X12_oneStop_212 N (L_X12_oneStop_162 N n) ih _ _ _ _ _ _ _ _ _ _ _ _ _ H
          · replace H := ite_n cc H
            refine g_goto (tgt := 220) (T_X12_oneStop 119 _ _ _ rfl) (by decide) ?_
            refine g_weak [true, true, false, true, true, true, true, true, true, true, true, true, true, true, true, false] ?_
            exact R_J_X12_oneStop_220 N (L_X12_oneStop_162 N n) ih _ _ _ _ _ _ _ _ _ _ _ _ _ _ H
      · replace H := ite_p cc H
        refine g_goto (tgt := 220) (T_X12_oneStop 103 _ _ _ rfl) (by decide) ?_
        refine g_weak [true, true, false, true, true, true, true, true, true, true, true, true, true, true, true, false] ?_
        exact R_J_X12_oneStop_220 N (L_X12_oneStop_162 N n) ih _ _ _ _ _ _ _ _ _ _ _ _ _ _ H
def F_X12_oneStop (N : Nat) (x1 : Int) (x2 : Int) (x3 : Int) (h : Hp) : Option (Int × Hp) :=
  bd (F_X12_isCart N x1 h) fun y2 h1 =>
  if y2 = 0 then
    some ((-1), h1)
  else
  bd (F_X12_in N x2 1 99 h1) fun y4 h3 =>
  if y4 = 0 then
    some ((-1), h3)
  else
  bd (F_X12_in N x3 0 1 h3) fun y6 h5 =>
  if y6 = 0 then
    some ((-1), h5)
  else
  if (h5 84 (14 : Int).toNat) = 9999 then
    some ((-1), h5)
  else
  if (h5 83 12) = 0 then
    some ((-2), h5)
  else
  bnd ((w32 (16 * x1))) fun y7 =>
  grd (0 ≤ x1 ∧ x1 < 5) <|
  bnd ((h5 93 x1.toNat)) fun y8 =>
  grd (0 ≤ y7 ∧ y7 < 80) <|
  bnd ((h5 94 y7.toNat)) fun y9 =>
  grd (0 ≤ (w32 (y7 + 1)) ∧ (w32 (y7 + 1)) < 80) <|
  bnd ((h5 94 (w32 (y7 + 1)).toNat)) fun y10 =>
  grd (0 ≤ y7 ∧ y7 < 80) <|
  bnd ((h5 95 y7.toNat)) fun y11 =>
  grd (0 ≤ (w32 (y7 + 1)) ∧ (w32 (y7 + 1)) < 80) <|
  bnd ((h5 95 (w32 (y7 + 1)).toNat)) fun y12 =>
  bnd ((h5 83 13)) fun y13 =>
  bnd (hw h5 83 13 (ishl 1 x1)) fun h14 =>
  grd (0 ≤ x1 ∧ x1 < 5) <|
  bnd (hw h14 93 x1.toNat 2) fun h15 =>
  grd (0 ≤ y7 ∧ y7 < 80) <|
  bnd (hw h15 94 y7.toNat 14) fun h16 =>
  grd (0 ≤ y7 ∧ y7 < 80) <|
  bnd (hw h16 95 y7.toNat x2) fun h17 =>
  grd (0 ≤ (w32 (y7 + 1)) ∧ (w32 (y7 + 1)) < 80) <|
  bnd (hw h17 95 (w32 (y7 + 1)).toNat x2) fun h18 =>
  L_X12_oneStop_162 N  N x1 x3 y7 y8 y9 y10 y11 y12 y13 (-1) 0 0 h18
set_option maxRecDepth 100000 in
set_option maxHeartbeats 4000000 in
theorem R_X12_oneStop (N : Nat) (x1 : Int) (x2 : Int) (x3 : Int) (h : Hp) (res : Int × Hp) (H : F_X12_oneStop N x1 x2 x3 h = some res) : Runs M_X12_oneStop 8 [.inr 84, .inl x1, .inl x2, .inl x3] h (Qi res) := by
  refine Runs.of rfl (Nat.le_of_ble_eq_true rfl) ?_
  show Go M_X12_oneStop 8 0 [some (.inr 84), some (.inl x1), some (.inl x2), some (.inl x3), none, none, none, none, none, none, none, none, none, none, none, none] [] h (Qi res)
  unfold F_X12_oneStop at H
  refine g_aload_n (T_X12_oneStop 0 _ _ _ rfl) rfl ?_
  refine g_iload_n (T_X12_oneStop 1 _ _ _ rfl) rfl ?_
  obtain ⟨y2, h1, hq, H⟩ := bd_some H
  refine g_callVi (M' := M_X12_isCart) (c := 83) (av := [.inl x1]) (st := []) (T_X12_oneStop 2 _ _ _ rfl) ml_X12_317 cb_X12_isCart rfl rfl (Nat.le_of_ble_eq_true rfl) (by omega) (R_X12_isCart N _ _ _ hq) ?_
  refine g_if_eq (tgt := 40) (T_X12_oneStop 3 _ _ _ rfl) (by decide) (fun cc => ?_) (fun cc => ?_)
  · replace H := ite_p cc H
    refine g_iconst (T_X12_oneStop 20 _ _ _ rfl) ⟨by decide, by decide⟩ ?_
    exact g_iret (T_X12_oneStop 21 _ _ _ rfl) rfl (qi_of H)
  · replace H := ite_n cc H
    refine g_iload_n (T_X12_oneStop 4 _ _ _ rfl) rfl ?_
    refine g_iconst (T_X12_oneStop 5 _ _ _ rfl) ⟨by decide, by decide⟩ ?_
    refine g_bipush (T_X12_oneStop 6 _ _ _ rfl) (by decide) ?_
    obtain ⟨y4, h3, hq, H⟩ := bd_some H
    refine g_callSi (M' := M_X12_in) (av := [.inl x2, .inl 1, .inl 99]) (st := []) (T_X12_oneStop 7 _ _ _ rfl) ml_X12_155 cb_X12_in rfl (Nat.le_of_ble_eq_true rfl) (by omega) (R_X12_in N _ _ _ _ _ hq) ?_
    refine g_if_eq (tgt := 40) (T_X12_oneStop 8 _ _ _ rfl) (by decide) (fun cc => ?_) (fun cc => ?_)
    · replace H := ite_p cc H
      refine g_iconst (T_X12_oneStop 20 _ _ _ rfl) ⟨by decide, by decide⟩ ?_
      exact g_iret (T_X12_oneStop 21 _ _ _ rfl) rfl (qi_of H)
    · replace H := ite_n cc H
      refine g_iload_n (T_X12_oneStop 9 _ _ _ rfl) rfl ?_
      refine g_iconst (T_X12_oneStop 10 _ _ _ rfl) ⟨by decide, by decide⟩ ?_
      refine g_iconst (T_X12_oneStop 11 _ _ _ rfl) ⟨by decide, by decide⟩ ?_
      obtain ⟨y6, h5, hq, H⟩ := bd_some H
      refine g_callSi (M' := M_X12_in) (av := [.inl x3, .inl 0, .inl 1]) (st := []) (T_X12_oneStop 12 _ _ _ rfl) ml_X12_155 cb_X12_in rfl (Nat.le_of_ble_eq_true rfl) (by omega) (R_X12_in N _ _ _ _ _ hq) ?_
      refine g_if_eq (tgt := 40) (T_X12_oneStop 13 _ _ _ rfl) (by decide) (fun cc => ?_) (fun cc => ?_)
      · replace H := ite_p cc H
        refine g_iconst (T_X12_oneStop 20 _ _ _ rfl) ⟨by decide, by decide⟩ ?_
        exact g_iret (T_X12_oneStop 21 _ _ _ rfl) rfl (qi_of H)
      · replace H := ite_n cc H
        refine g_aload_n (T_X12_oneStop 14 _ _ _ rfl) rfl ?_
        refine g_getR (c := 83) (r := 85) (T_X12_oneStop 15 _ _ _ rfl) fl_X12_7 rfl (nR rfl) rfl (by decide) ?_
        refine g_bipush (T_X12_oneStop 16 _ _ _ rfl) (by decide) ?_
        refine g_iald (c := 84) (T_X12_oneStop 17 _ _ _ rfl) rfl (by decide) ?_
        refine g_sipush (T_X12_oneStop 18 _ _ _ rfl) (by decide) ?_
        refine g_icmp_ne (tgt := 42) (T_X12_oneStop 19 _ _ _ rfl) (by decide) (fun cc => ?_) (fun cc => ?_)
        · replace H := ite_n cc H
          refine g_aload_n (T_X12_oneStop 22 _ _ _ rfl) rfl ?_
          refine g_getI (c := 83) (T_X12_oneStop 23 _ _ _ rfl) fl_X12_135 rfl (Or.inl rfl) ?_
          refine g_if_ne (tgt := 52) (T_X12_oneStop 24 _ _ _ rfl) (by decide) (fun cc => ?_) (fun cc => ?_)
          · replace H := ite_n cc H
            refine g_aload_n (T_X12_oneStop 27 _ _ _ rfl) rfl ?_
            refine g_getR (c := 83) (r := 95) (T_X12_oneStop 28 _ _ _ rfl) fl_X12_40 rfl (nR rfl) rfl (by decide) ?_
            refine g_astore (T_X12_oneStop 29 _ _ _ rfl) (by decide) ?_
            refine g_bipush (T_X12_oneStop 30 _ _ _ rfl) (by decide) ?_
            refine g_iload_n (T_X12_oneStop 31 _ _ _ rfl) rfl ?_
            refine g_imul (T_X12_oneStop 32 _ _ _ rfl) ?_
            refine g_bndI H fun y7 H => ?_
            refine g_istore (T_X12_oneStop 33 _ _ _ rfl) (by decide) ?_
            refine g_aload_n (T_X12_oneStop 34 _ _ _ rfl) rfl ?_
            refine g_getR (c := 83) (r := 94) (T_X12_oneStop 35 _ _ _ rfl) fl_X12_37 rfl (nR rfl) rfl (by decide) ?_
            refine g_iload_n (T_X12_oneStop 36 _ _ _ rfl) rfl ?_
            obtain ⟨hg, H⟩ := grd_some H
            refine g_iald (c := 93) (T_X12_oneStop 37 _ _ _ rfl) rfl hg ?_
            refine g_bndI H fun y8 H => ?_
            refine g_istore (T_X12_oneStop 38 _ _ _ rfl) (by decide) ?_
            refine g_aload (T_X12_oneStop 39 _ _ _ rfl) rfl ?_
            refine g_iload (T_X12_oneStop 40 _ _ _ rfl) rfl ?_
            obtain ⟨hg, H⟩ := grd_some H
            refine g_iald (c := 94) (T_X12_oneStop 41 _ _ _ rfl) rfl hg ?_
            refine g_bndI H fun y9 H => ?_
            refine g_istore (T_X12_oneStop 42 _ _ _ rfl) (by decide) ?_
            refine g_aload (T_X12_oneStop 43 _ _ _ rfl) rfl ?_
            refine g_iload (T_X12_oneStop 44 _ _ _ rfl) rfl ?_
            refine g_iconst (T_X12_oneStop 45 _ _ _ rfl) ⟨by decide, by decide⟩ ?_
            refine g_iadd (T_X12_oneStop 46 _ _ _ rfl) ?_
            obtain ⟨hg, H⟩ := grd_some H
            refine g_iald (c := 94) (T_X12_oneStop 47 _ _ _ rfl) rfl hg ?_
            refine g_bndI H fun y10 H => ?_
            refine g_istore (T_X12_oneStop 48 _ _ _ rfl) (by decide) ?_
            refine g_aload_n (T_X12_oneStop 49 _ _ _ rfl) rfl ?_
            refine g_getR (c := 83) (r := 96) (T_X12_oneStop 50 _ _ _ rfl) fl_X12_43 rfl (nR rfl) rfl (by decide) ?_
            refine g_iload (T_X12_oneStop 51 _ _ _ rfl) rfl ?_
            obtain ⟨hg, H⟩ := grd_some H
            refine g_iald (c := 95) (T_X12_oneStop 52 _ _ _ rfl) rfl hg ?_
            refine g_bndI H fun y11 H => ?_
            refine g_istore (T_X12_oneStop 53 _ _ _ rfl) (by decide) ?_
            refine g_aload_n (T_X12_oneStop 54 _ _ _ rfl) rfl ?_
            refine g_getR (c := 83) (r := 96) (T_X12_oneStop 55 _ _ _ rfl) fl_X12_43 rfl (nR rfl) rfl (by decide) ?_
            refine g_iload (T_X12_oneStop 56 _ _ _ rfl) rfl ?_
            refine g_iconst (T_X12_oneStop 57 _ _ _ rfl) ⟨by decide, by decide⟩ ?_
            refine g_iadd (T_X12_oneStop 58 _ _ _ rfl) ?_
            obtain ⟨hg, H⟩ := grd_some H
            refine g_iald (c := 95) (T_X12_oneStop 59 _ _ _ rfl) rfl hg ?_
            refine g_bndI H fun y12 H => ?_
            refine g_istore (T_X12_oneStop 60 _ _ _ rfl) (by decide) ?_
            refine g_aload_n (T_X12_oneStop 61 _ _ _ rfl) rfl ?_
            refine g_getI (c := 83) (T_X12_oneStop 62 _ _ _ rfl) fl_X12_143 rfl (Or.inl rfl) ?_
            refine g_bndI H fun y13 H => ?_
            refine g_istore (T_X12_oneStop 63 _ _ _ rfl) (by decide) ?_
            refine g_aload_n (T_X12_oneStop 64 _ _ _ rfl) rfl ?_
            refine g_iconst (T_X12_oneStop 65 _ _ _ rfl) ⟨by decide, by decide⟩ ?_
            refine g_iload_n (T_X12_oneStop 66 _ _ _ rfl) rfl ?_
            refine g_ishl (T_X12_oneStop 67 _ _ _ rfl) ?_
            refine g_put (c := 83) (T_X12_oneStop 68 _ _ _ rfl) fl_X12_143 rfl (Or.inl rfl) ?_
            refine g_bndH H fun h14 H => ?_
            refine g_aload_n (T_X12_oneStop 69 _ _ _ rfl) rfl ?_
            refine g_getR (c := 83) (r := 94) (T_X12_oneStop 70 _ _ _ rfl) fl_X12_37 rfl (nR rfl) rfl (by decide) ?_
            refine g_iload_n (T_X12_oneStop 71 _ _ _ rfl) rfl ?_
            refine g_iconst (T_X12_oneStop 72 _ _ _ rfl) ⟨by decide, by decide⟩ ?_
            obtain ⟨hg, H⟩ := grd_some H
            refine g_iast (c := 93) (T_X12_oneStop 73 _ _ _ rfl) rfl hg ?_
            refine g_bndH H fun h15 H => ?_
            refine g_aload (T_X12_oneStop 74 _ _ _ rfl) rfl ?_
            refine g_iload (T_X12_oneStop 75 _ _ _ rfl) rfl ?_
            refine g_bipush (T_X12_oneStop 76 _ _ _ rfl) (by decide) ?_
            obtain ⟨hg, H⟩ := grd_some H
            refine g_iast (c := 94) (T_X12_oneStop 77 _ _ _ rfl) rfl hg ?_
            refine g_bndH H fun h16 H => ?_
            refine g_aload_n (T_X12_oneStop 78 _ _ _ rfl) rfl ?_
            refine g_getR (c := 83) (r := 96) (T_X12_oneStop 79 _ _ _ rfl) fl_X12_43 rfl (nR rfl) rfl (by decide) ?_
            refine g_iload (T_X12_oneStop 80 _ _ _ rfl) rfl ?_
            refine g_iload_n (T_X12_oneStop 81 _ _ _ rfl) rfl ?_
            obtain ⟨hg, H⟩ := grd_some H
            refine g_iast (c := 95) (T_X12_oneStop 82 _ _ _ rfl) rfl hg ?_
            refine g_bndH H fun h17 H => ?_
            refine g_aload_n (T_X12_oneStop 83 _ _ _ rfl) rfl ?_
            refine g_getR (c := 83) (r := 96) (T_X12_oneStop 84 _ _ _ rfl) fl_X12_43 rfl (nR rfl) rfl (by decide) ?_
            refine g_iload (T_X12_oneStop 85 _ _ _ rfl) rfl ?_
            refine g_iconst (T_X12_oneStop 86 _ _ _ rfl) ⟨by decide, by decide⟩ ?_
            refine g_iadd (T_X12_oneStop 87 _ _ _ rfl) ?_
            refine g_iload_n (T_X12_oneStop 88 _ _ _ rfl) rfl ?_
            obtain ⟨hg, H⟩ := grd_some H
            refine g_iast (c := 95) (T_X12_oneStop 89 _ _ _ rfl) rfl hg ?_
            refine g_bndH H fun h18 H => ?_
            refine g_iconst (T_X12_oneStop 90 _ _ _ rfl) ⟨by decide, by decide⟩ ?_
            refine g_istore (T_X12_oneStop 91 _ _ _ rfl) (by decide) ?_
            refine g_iconst (T_X12_oneStop 92 _ _ _ rfl) ⟨by decide, by decide⟩ ?_
            refine g_istore (T_X12_oneStop 93 _ _ _ rfl) (by decide) ?_
            refine g_iconst (T_X12_oneStop 94 _ _ _ rfl) ⟨by decide, by decide⟩ ?_
            refine g_istore (T_X12_oneStop 95 _ _ _ rfl) (by decide) ?_
            refine g_weak [true, true, false, true, true, true, true, true, true, true, true, true, true, true, true, false] ?_
            refine R_L_X12_oneStop_162 N   _ _ _ _ _ _ _ _ _ _ _ _ _ _ _ H
          · replace H := ite_p cc H
            refine g_bipush (T_X12_oneStop 25 _ _ _ rfl) (by decide) ?_
            exact g_iret (T_X12_oneStop 26 _ _ _ rfl) rfl (qi_of H)
        · replace H := ite_p cc H
          refine g_iconst (T_X12_oneStop 20 _ _ _ rfl) ⟨by decide, by decide⟩ ?_
          exact g_iret (T_X12_oneStop 21 _ _ _ rfl) rfl (qi_of H)
def L_X12_spared_4 (N : Nat) : Nat → Int → Int → Int → Hp → Option (Int × Hp)
  | 0, _, _, _, _ => none
  | n + 1, x1, x2, x3, h =>
    if 10 ≤ x3 then
      some (x2, h)
    else
    bd (F_X12_byStreet N 119 x1 x3 h) fun y2 h1 =>
    bnd ((w32 (x2 + y2))) fun y3 =>
    bv (F_X12_feels N x1 x3 0 h1) fun h4 =>
    bnd (hw h4 109 (2 : Int).toNat 0) fun h5 =>
    bd (F_X12_byLaw N 119 999 h5) fun y7 h6 =>
    bnd ((w32 (y3 - y7))) fun y8 =>
    bnd (w32 (x3 + 1)) fun y9 =>
    (L_X12_spared_4 N n) x1 y8 y9 h6
set_option maxRecDepth 100000 in
set_option maxHeartbeats 4000000 in
theorem R_L_X12_spared_4 (N : Nat) : ∀ (n : Nat) (x1 : Int) (x2 : Int) (x3 : Int) (h : Hp) (res : Int × Hp), L_X12_spared_4 N n x1 x2 x3 h = some res → Go M_X12_spared 5 4 [some (.inr 84), some (.inl x1), some (.inl x2), some (.inl x3)] [] h (Qi res)
  | 0, _, _, _, _, _, H => by cases H
  | n + 1, x1, x2, x3, h, res, H => by
    have ih := R_L_X12_spared_4 N n
    simp only [L_X12_spared_4] at H
    refine g_iload_n (T_X12_spared 4 _ _ _ rfl) rfl ?_
    refine g_bipush (T_X12_spared 5 _ _ _ rfl) (by decide) ?_
    refine g_icmp_ge (tgt := 53) (T_X12_spared 6 _ _ _ rfl) (by decide) (fun cc => ?_) (fun cc => ?_)
    · replace H := ite_p cc H
      refine g_iload_n (T_X12_spared 34 _ _ _ rfl) rfl ?_
      exact g_iret (T_X12_spared 35 _ _ _ rfl) rfl (qi_of H)
    · replace H := ite_n cc H
      refine g_iload_n (T_X12_spared 7 _ _ _ rfl) rfl ?_
      refine g_aload_n (T_X12_spared 8 _ _ _ rfl) rfl ?_
      refine g_bipush (T_X12_spared 9 _ _ _ rfl) (by decide) ?_
      refine g_iload_n (T_X12_spared 10 _ _ _ rfl) rfl ?_
      refine g_iload_n (T_X12_spared 11 _ _ _ rfl) rfl ?_
      obtain ⟨y2, h1, hq, H⟩ := bd_some H
      refine g_callVi (M' := M_X12_byStreet) (c := 83) (av := [.inl 119, .inl x1, .inl x3]) (st := [.inl x2]) (T_X12_spared 12 _ _ _ rfl) ml_X12_308 cb_X12_byStreet rfl rfl (Nat.le_of_ble_eq_true rfl) (by omega) (R_X12_byStreet N _ _ _ _ _ hq) ?_
      refine g_iadd (T_X12_spared 13 _ _ _ rfl) ?_
      refine g_bndI H fun y3 H => ?_
      refine g_istore_n (T_X12_spared 14 _ _ _ rfl) (by decide) ?_
      refine g_aload_n (T_X12_spared 15 _ _ _ rfl) rfl ?_
      refine g_iload_n (T_X12_spared 16 _ _ _ rfl) rfl ?_
      refine g_iload_n (T_X12_spared 17 _ _ _ rfl) rfl ?_
      refine g_iconst (T_X12_spared 18 _ _ _ rfl) ⟨by decide, by decide⟩ ?_
      obtain ⟨h4, hq, H⟩ := bv_some H
      refine g_callVv (M' := M_X12_feels) (c := 83) (av := [.inl x1, .inl x3, .inl 0]) (st := []) (T_X12_spared 19 _ _ _ rfl) ml_X12_268 cb_X12_feels rfl rfl (Nat.le_of_ble_eq_true rfl) (by omega) (R_X12_feels N _ _ _ _ _ hq) ?_
      refine g_aload_n (T_X12_spared 20 _ _ _ rfl) rfl ?_
      refine g_getR (c := 83) (r := 110) (T_X12_spared 21 _ _ _ rfl) fl_X12_86 rfl (nR rfl) rfl (by decide) ?_
      refine g_iconst (T_X12_spared 22 _ _ _ rfl) ⟨by decide, by decide⟩ ?_
      refine g_iconst (T_X12_spared 23 _ _ _ rfl) ⟨by decide, by decide⟩ ?_
      refine g_iast (c := 109) (T_X12_spared 24 _ _ _ rfl) rfl (by decide) ?_
      refine g_bndH H fun h5 H => ?_
      refine g_iload_n (T_X12_spared 25 _ _ _ rfl) rfl ?_
      refine g_aload_n (T_X12_spared 26 _ _ _ rfl) rfl ?_
      refine g_bipush (T_X12_spared 27 _ _ _ rfl) (by decide) ?_
      refine g_sipush (T_X12_spared 28 _ _ _ rfl) (by decide) ?_
      obtain ⟨y7, h6, hq, H⟩ := bd_some H
      refine g_callVi (M' := M_X12_byLaw) (c := 83) (av := [.inl 119, .inl 999]) (st := [.inl y3]) (T_X12_spared 29 _ _ _ rfl) ml_X12_272 cb_X12_byLaw rfl rfl (Nat.le_of_ble_eq_true rfl) (by omega) (R_X12_byLaw N _ _ _ _ hq) ?_
      refine g_isub (T_X12_spared 30 _ _ _ rfl) ?_
      refine g_bndI H fun y8 H => ?_
      refine g_istore_n (T_X12_spared 31 _ _ _ rfl) (by decide) ?_
      refine g_iincB (T_X12_spared 32 _ _ _ rfl) rfl (by decide) H fun y9 H => ?_
      refine g_goto (tgt := 4) (T_X12_spared 33 _ _ _ rfl) (by decide) ?_
      refine g_weak [true, true, true, true] ?_
      exact ih _ _ _ _ _ H
def F_X12_spared (N : Nat) (x1 : Int) (h : Hp) : Option (Int × Hp) :=
  L_X12_spared_4 N  N x1 0 0 h
set_option maxRecDepth 100000 in
set_option maxHeartbeats 4000000 in
theorem R_X12_spared (N : Nat) (x1 : Int) (h : Hp) (res : Int × Hp) (H : F_X12_spared N x1 h = some res) : Runs M_X12_spared 5 [.inr 84, .inl x1] h (Qi res) := by
  refine Runs.of rfl (Nat.le_of_ble_eq_true rfl) ?_
  show Go M_X12_spared 5 0 [some (.inr 84), some (.inl x1), none, none] [] h (Qi res)
  unfold F_X12_spared at H
  refine g_iconst (T_X12_spared 0 _ _ _ rfl) ⟨by decide, by decide⟩ ?_
  refine g_istore_n (T_X12_spared 1 _ _ _ rfl) (by decide) ?_
  refine g_iconst (T_X12_spared 2 _ _ _ rfl) ⟨by decide, by decide⟩ ?_
  refine g_istore_n (T_X12_spared 3 _ _ _ rfl) (by decide) ?_
  refine g_weak [true, true, true, true] ?_
  refine R_L_X12_spared_4 N   _ _ _ _ _ _ H
def J_X12_out_175 (N : Nat) (k76 : Int → Int → Int → Int → Int → Hp → Option (Int × Hp)) (x1 : Int) (x2 : Int) (x3 : Int) (x4 : Int) (x5 : Int) (h : Hp) : Option (Int × Hp) :=
  bnd (w32 (x5 + 1)) fun y1 =>
  k76 x1 x2 x3 x4 y1 h
set_option maxRecDepth 100000 in
set_option maxHeartbeats 4000000 in
theorem R_J_X12_out_175 (N : Nat) (k76 : Int → Int → Int → Int → Int → Hp → Option (Int × Hp)) (hk76 : ∀ (x1 : Int) (x2 : Int) (x3 : Int) (x4 : Int) (x5 : Int) (h : Hp) (res : Int × Hp), k76 x1 x2 x3 x4 x5 h = some res → Go M_X12_out 6 76 [some (.inr 84), some (.inl x1), some (.inl x2), some (.inl x3), some (.inl x4), some (.inl x5), none, none] [] h (Qi res)) (x1 : Int) (x2 : Int) (x3 : Int) (x4 : Int) (x5 : Int) (h : Hp) (res : Int × Hp) (H : J_X12_out_175 N k76 x1 x2 x3 x4 x5 h = some res) : Go M_X12_out 6 175 [some (.inr 84), some (.inl x1), some (.inl x2), some (.inl x3), some (.inl x4), some (.inl x5), none, none] [] h (Qi res) := by
  unfold J_X12_out_175 at H
  refine g_iincB (T_X12_out 91 _ _ _ rfl) rfl (by decide) H fun y1 H => ?_
  refine g_goto (tgt := 76) (T_X12_out 92 _ _ _ rfl) (by decide) ?_
  refine g_weak [true, true, true, true, true, true, false, false] ?_
  exact hk76 _ _ _ _ _ _ _ H
def J_X12_out_144 (N : Nat) (k114 : Int → Int → Int → Int → Int → Int → Int → Hp → Option (Int × Hp)) (x1 : Int) (x2 : Int) (x3 : Int) (x4 : Int) (x5 : Int) (x7 : Int) (s0 : Int) (s1 : Int) (h : Hp) : Option (Int × Hp) :=
  bnd ((w32 (s0 + s1))) fun y1 =>
  bnd (w32 (x7 + 1)) fun y2 =>
  k114 x1 x2 x3 x4 x5 y1 y2 h
set_option maxRecDepth 100000 in
set_option maxHeartbeats 4000000 in
theorem R_J_X12_out_144 (N : Nat) (k114 : Int → Int → Int → Int → Int → Int → Int → Hp → Option (Int × Hp)) (hk114 : ∀ (x1 : Int) (x2 : Int) (x3 : Int) (x4 : Int) (x5 : Int) (x6 : Int) (x7 : Int) (h : Hp) (res : Int × Hp), k114 x1 x2 x3 x4 x5 x6 x7 h = some res → Go M_X12_out 6 114 [some (.inr 84), some (.inl x1), some (.inl x2), some (.inl x3), some (.inl x4), some (.inl x5), some (.inl x6), some (.inl x7)] [] h (Qi res)) (x1 : Int) (x2 : Int) (x3 : Int) (x4 : Int) (x5 : Int) (x7 : Int) (s0 : Int) (s1 : Int) (h : Hp) (res : Int × Hp) (H : J_X12_out_144 N k114 x1 x2 x3 x4 x5 x7 s0 s1 h = some res) : Go M_X12_out 6 144 [some (.inr 84), some (.inl x1), some (.inl x2), some (.inl x3), some (.inl x4), some (.inl x5), none, some (.inl x7)] [.inl s1, .inl s0] h (Qi res) := by
  unfold J_X12_out_144 at H
  refine g_iadd (T_X12_out 76 _ _ _ rfl) ?_
  refine g_bndI H fun y1 H => ?_
  refine g_istore (T_X12_out 77 _ _ _ rfl) (by decide) ?_
  refine g_iincB (T_X12_out 78 _ _ _ rfl) rfl (by decide) H fun y2 H => ?_
  refine g_goto (tgt := 114) (T_X12_out 79 _ _ _ rfl) (by decide) ?_
  refine g_weak [true, true, true, true, true, true, true, true] ?_
  exact hk114 _ _ _ _ _ _ _ _ _ H
def L_X12_out_114 (N : Nat) (k153 : Int → Int → Int → Int → Int → Int → Hp → Option (Int × Hp)) : Nat → Int → Int → Int → Int → Int → Int → Int → Hp → Option (Int × Hp)
  | 0, _, _, _, _, _, _, _, _ => none
  | n + 1, x1, x2, x3, x4, x5, x6, x7, h =>
    if 14 ≤ x7 then
      k153 x1 x2 x3 x4 x5 x6 h
    else
    bd (F_X12_has N x5 x7 h) fun y2 h1 =>
    if y2 = 0 then
      J_X12_out_144 N (L_X12_out_114 N k153 n) x1 x2 x3 x4 x5 x7 x6 0 h1
    else
    grd (0 ≤ x7 ∧ x7 < 14) <|
    J_X12_out_144 N (L_X12_out_114 N k153 n) x1 x2 x3 x4 x5 x7 x6 (h1 122 x7.toNat) h1
set_option maxRecDepth 100000 in
set_option maxHeartbeats 4000000 in
theorem R_L_X12_out_114 (N : Nat) (k153 : Int → Int → Int → Int → Int → Int → Hp → Option (Int × Hp)) (hk153 : ∀ (x1 : Int) (x2 : Int) (x3 : Int) (x4 : Int) (x5 : Int) (x6 : Int) (h : Hp) (res : Int × Hp), k153 x1 x2 x3 x4 x5 x6 h = some res → Go M_X12_out 6 153 [some (.inr 84), some (.inl x1), some (.inl x2), some (.inl x3), some (.inl x4), some (.inl x5), some (.inl x6), none] [] h (Qi res)) : ∀ (n : Nat) (x1 : Int) (x2 : Int) (x3 : Int) (x4 : Int) (x5 : Int) (x6 : Int) (x7 : Int) (h : Hp) (res : Int × Hp), L_X12_out_114 N k153 n x1 x2 x3 x4 x5 x6 x7 h = some res → Go M_X12_out 6 114 [some (.inr 84), some (.inl x1), some (.inl x2), some (.inl x3), some (.inl x4), some (.inl x5), some (.inl x6), some (.inl x7)] [] h (Qi res)
  | 0, _, _, _, _, _, _, _, _, _, H => by cases H
  | n + 1, x1, x2, x3, x4, x5, x6, x7, h, res, H => by
    have ih := R_L_X12_out_114 N k153 hk153 n
    simp only [L_X12_out_114] at H
    refine g_iload (T_X12_out 62 _ _ _ rfl) rfl ?_
    refine g_bipush (T_X12_out 63 _ _ _ rfl) (by decide) ?_
    refine g_icmp_ge (tgt := 153) (T_X12_out 64 _ _ _ rfl) (by decide) (fun cc => ?_) (fun cc => ?_)
    · replace H := ite_p cc H
      refine g_weak [true, true, true, true, true, true, true, false] ?_
      exact hk153 _ _ _ _ _ _ _ _ H
    · replace H := ite_n cc H
      refine g_iload (T_X12_out 65 _ _ _ rfl) rfl ?_
      refine g_iload (T_X12_out 66 _ _ _ rfl) rfl ?_
      refine g_iload (T_X12_out 67 _ _ _ rfl) rfl ?_
      obtain ⟨y2, h1, hq, H⟩ := bd_some H
      refine g_callSi (M' := M_X12_has) (av := [.inl x5, .inl x7]) (st := [.inl x6]) (T_X12_out 68 _ _ _ rfl) ml_X12_139 cb_X12_has rfl (Nat.le_of_ble_eq_true rfl) (by omega) (R_X12_has N _ _ _ _ hq) ?_
      refine g_if_eq (tgt := 143) (T_X12_out 69 _ _ _ rfl) (by decide) (fun cc => ?_) (fun cc => ?_)
      · replace H := ite_p cc H
        refine g_iconst (T_X12_out 75 _ _ _ rfl) ⟨by decide, by decide⟩ ?_
        refine g_weak [true, true, true, true, true, true, false, true] ?_
        exact R_J_X12_out_144 N (L_X12_out_114 N k153 n) ih _ _ _ _ _ _ _ _ _ _ H
      · replace H := ite_n cc H
        refine g_aload_n (T_X12_out 70 _ _ _ rfl) rfl ?_
        refine g_getR (c := 83) (r := 123) (T_X12_out 71 _ _ _ rfl) fl_X12_125 rfl (nR rfl) rfl (by decide) ?_
        refine g_iload (T_X12_out 72 _ _ _ rfl) rfl ?_
        obtain ⟨hg, H⟩ := grd_some H
        refine g_iald (c := 122) (T_X12_out 73 _ _ _ rfl) rfl hg ?_
        refine g_goto (tgt := 144) (T_X12_out 74 _ _ _ rfl) (by decide) ?_
        refine g_weak [true, true, true, true, true, true, false, true] ?_
        exact R_J_X12_out_144 N (L_X12_out_114 N k153 n) ih _ _ _ _ _ _ _ _ _ _ H
def J_X12_out_168 (N : Nat) (k76 : Int → Int → Int → Int → Int → Hp → Option (Int × Hp)) (x1 : Int) (x2 : Int) (x5 : Int) (x6 : Int) (h : Hp) : Option (Int × Hp) :=
  J_X12_out_175 N k76 x1 x2 x5 x6 x5 h
set_option maxRecDepth 100000 in
set_option maxHeartbeats 4000000 in
theorem R_J_X12_out_168 (N : Nat) (k76 : Int → Int → Int → Int → Int → Hp → Option (Int × Hp)) (hk76 : ∀ (x1 : Int) (x2 : Int) (x3 : Int) (x4 : Int) (x5 : Int) (h : Hp) (res : Int × Hp), k76 x1 x2 x3 x4 x5 h = some res → Go M_X12_out 6 76 [some (.inr 84), some (.inl x1), some (.inl x2), some (.inl x3), some (.inl x4), some (.inl x5), none, none] [] h (Qi res)) (x1 : Int) (x2 : Int) (x5 : Int) (x6 : Int) (h : Hp) (res : Int × Hp) (H : J_X12_out_168 N k76 x1 x2 x5 x6 h = some res) : Go M_X12_out 6 168 [some (.inr 84), some (.inl x1), some (.inl x2), none, none, some (.inl x5), some (.inl x6), none] [] h (Qi res) := by
  unfold J_X12_out_168 at H
  refine g_iload (T_X12_out 87 _ _ _ rfl) rfl ?_
  refine g_istore_n (T_X12_out 88 _ _ _ rfl) (by decide) ?_
  refine g_iload (T_X12_out 89 _ _ _ rfl) rfl ?_
  refine g_istore (T_X12_out 90 _ _ _ rfl) (by decide) ?_
  refine g_weak [true, true, true, true, true, true, false, false] ?_
  exact R_J_X12_out_175 N k76 hk76 _ _ _ _ _ _ _ H
def L_X12_out_76 (N : Nat) : Nat → Int → Int → Int → Int → Int → Hp → Option (Int × Hp)
  | 0, _, _, _, _, _, _ => none
  | n + 1, x1, x2, x3, x4, x5, h =>
    if 16384 ≤ x5 then
      if x2 = 0 then
        some (x4, h)
      else
      some (x3, h)
    else
    if (iand x5 (ixor (h 83 12) (-1))) = 0 then
      bd (F_X12_bits N x5 h) fun y2 h1 =>
      if y2 = x1 then
        L_X12_out_114 N (fun (v3 : Int) (v4 : Int) (v5 : Int) (v6 : Int) (v7 : Int) (v8 : Int) (h9 : Hp) =>
          if v5 = (-1) then
            J_X12_out_168 N (L_X12_out_76 N n) v3 v4 v7 v8 h9
          else
          if v6 < v8 then
            J_X12_out_168 N (L_X12_out_76 N n) v3 v4 v7 v8 h9
          else
          J_X12_out_175 N (L_X12_out_76 N n) v3 v4 v5 v6 v7 h9) N x1 x2 x3 x4 x5 0 0 h1
      else
      J_X12_out_175 N (L_X12_out_76 N n) x1 x2 x3 x4 x5 h1
    else
    J_X12_out_175 N (L_X12_out_76 N n) x1 x2 x3 x4 x5 h
set_option maxRecDepth 100000 in
set_option maxHeartbeats 4000000 in
theorem R_L_X12_out_76 (N : Nat) : ∀ (n : Nat) (x1 : Int) (x2 : Int) (x3 : Int) (x4 : Int) (x5 : Int) (h : Hp) (res : Int × Hp), L_X12_out_76 N n x1 x2 x3 x4 x5 h = some res → Go M_X12_out 6 76 [some (.inr 84), some (.inl x1), some (.inl x2), some (.inl x3), some (.inl x4), some (.inl x5), none, none] [] h (Qi res)
  | 0, _, _, _, _, _, _, _, H => by cases H
  | n + 1, x1, x2, x3, x4, x5, h, res, H => by
    have ih := R_L_X12_out_76 N n
    simp only [L_X12_out_76] at H
    refine g_iload (T_X12_out 43 _ _ _ rfl) rfl ?_
    refine g_sipush (T_X12_out 44 _ _ _ rfl) (by decide) ?_
    refine g_icmp_ge (tgt := 181) (T_X12_out 45 _ _ _ rfl) (by decide) (fun cc => ?_) (fun cc => ?_)
    · replace H := ite_p cc H
      refine g_iload_n (T_X12_out 93 _ _ _ rfl) rfl ?_
      refine g_if_ne (tgt := 190) (T_X12_out 94 _ _ _ rfl) (by decide) (fun cc => ?_) (fun cc => ?_)
      · replace H := ite_n cc H
        refine g_iload_n (T_X12_out 97 _ _ _ rfl) rfl ?_
        exact g_iret (T_X12_out 98 _ _ _ rfl) rfl (qi_of H)
      · replace H := ite_p cc H
        refine g_iload (T_X12_out 95 _ _ _ rfl) rfl ?_
        refine g_goto (tgt := 191) (T_X12_out 96 _ _ _ rfl) (by decide) ?_
        exact g_iret (T_X12_out 98 _ _ _ rfl) rfl (qi_of H)
    · replace H := ite_n cc H
      refine g_iload (T_X12_out 46 _ _ _ rfl) rfl ?_
      refine g_aload_n (T_X12_out 47 _ _ _ rfl) rfl ?_
      refine g_getI (c := 83) (T_X12_out 48 _ _ _ rfl) fl_X12_135 rfl (Or.inl rfl) ?_
      refine g_iconst (T_X12_out 49 _ _ _ rfl) ⟨by decide, by decide⟩ ?_
      refine g_ixor (T_X12_out 50 _ _ _ rfl) ?_
      refine g_iand (T_X12_out 51 _ _ _ rfl) ?_
      refine g_if_ne (tgt := 175) (T_X12_out 52 _ _ _ rfl) (by decide) (fun cc => ?_) (fun cc => ?_)
      · replace H := ite_n cc H
        refine g_weak [true, true, true, true, true, true, false, false] ?_
        exact R_J_X12_out_175 N (L_X12_out_76 N n) ih _ _ _ _ _ _ _ H
      · replace H := ite_p cc H
        refine g_iload (T_X12_out 53 _ _ _ rfl) rfl ?_
        obtain ⟨y2, h1, hq, H⟩ := bd_some H
        refine g_callSi (M' := M_X12_bits) (av := [.inl x5]) (st := []) (T_X12_out 54 _ _ _ rfl) ml_X12_348 cb_X12_bits rfl (Nat.le_of_ble_eq_true rfl) (by omega) (R_X12_bits N _ _ _ hq) ?_
        refine g_iload_n (T_X12_out 55 _ _ _ rfl) rfl ?_
        refine g_icmp_eq (tgt := 108) (T_X12_out 56 _ _ _ rfl) (by decide) (fun cc => ?_) (fun cc => ?_)
        · replace H := ite_p cc H
          refine g_iconst (T_X12_out 58 _ _ _ rfl) ⟨by decide, by decide⟩ ?_
          refine g_istore (T_X12_out 59 _ _ _ rfl) (by decide) ?_
          refine g_iconst (T_X12_out 60 _ _ _ rfl) ⟨by decide, by decide⟩ ?_
          refine g_istore (T_X12_out 61 _ _ _ rfl) (by decide) ?_
          refine g_weak [true, true, true, true, true, true, true, true] ?_
          refine R_L_X12_out_114 N _ (fun v3 v4 v5 v6 v7 v8 h9 res H => ?_) _ _ _ _ _ _ _ _ _ _ H
          · refine g_iload_n (T_X12_out 80 _ _ _ rfl) rfl ?_
            refine g_iconst (T_X12_out 81 _ _ _ rfl) ⟨by decide, by decide⟩ ?_
            refine g_icmp_eq (tgt := 168) (T_X12_out 82 _ _ _ rfl) (by decide) (fun cc => ?_) (fun cc => ?_)
            · replace H := ite_p cc H
              refine g_weak [true, true, true, false, false, true, true, false] ?_
              exact R_J_X12_out_168 N (L_X12_out_76 N n) ih _ _ _ _ _ _ H
            · replace H := ite_n cc H
              refine g_iload (T_X12_out 83 _ _ _ rfl) rfl ?_
              refine g_iload (T_X12_out 84 _ _ _ rfl) rfl ?_
              refine g_icmp_gt (tgt := 168) (T_X12_out 85 _ _ _ rfl) (by decide) (fun cc => ?_) (fun cc => ?_)
              · replace H := ite_p cc H
                refine g_weak [true, true, true, false, false, true, true, false] ?_
                exact R_J_X12_out_168 N (L_X12_out_76 N n) ih _ _ _ _ _ _ H
              · replace H := ite_n cc H
                refine g_goto (tgt := 175) (T_X12_out 86 _ _ _ rfl) (by decide) ?_
                refine g_weak [true, true, true, true, true, true, false, false] ?_
                exact R_J_X12_out_175 N (L_X12_out_76 N n) ih _ _ _ _ _ _ _ H
        · replace H := ite_n cc H
          refine g_goto (tgt := 175) (T_X12_out 57 _ _ _ rfl) (by decide) ?_
          refine g_weak [true, true, true, true, true, true, false, false] ?_
          exact R_J_X12_out_175 N (L_X12_out_76 N n) ih _ _ _ _ _ _ _ H
def J_X12_out_61 (N : Nat) (k33 : Int → Int → Int → Hp → Option (Int × Hp)) (x1 : Int) (x2 : Int) (x3 : Int) (s1 : Int) (s2 : Int) (h : Hp) : Option (Int × Hp) :=
  grd (0 ≤ s1 ∧ s1 < 14) <|
  bnd (hw h 122 s1.toNat s2) fun h1 =>
  bnd (w32 (x3 + 1)) fun y2 =>
  k33 x1 x2 y2 h1
set_option maxRecDepth 100000 in
set_option maxHeartbeats 4000000 in
theorem R_J_X12_out_61 (N : Nat) (k33 : Int → Int → Int → Hp → Option (Int × Hp)) (hk33 : ∀ (x1 : Int) (x2 : Int) (x3 : Int) (h : Hp) (res : Int × Hp), k33 x1 x2 x3 h = some res → Go M_X12_out 6 33 [some (.inr 84), some (.inl x1), some (.inl x2), some (.inl x3), none, none, none, none] [] h (Qi res)) (x1 : Int) (x2 : Int) (x3 : Int) (s1 : Int) (s2 : Int) (h : Hp) (res : Int × Hp) (H : J_X12_out_61 N k33 x1 x2 x3 s1 s2 h = some res) : Go M_X12_out 6 61 [some (.inr 84), some (.inl x1), some (.inl x2), some (.inl x3), none, none, none, none] [.inl s2, .inl s1, .inr 123] h (Qi res) := by
  unfold J_X12_out_61 at H
  obtain ⟨hg, H⟩ := grd_some H
  refine g_iast (c := 122) (T_X12_out 34 _ _ _ rfl) rfl hg ?_
  refine g_bndH H fun h1 H => ?_
  refine g_iincB (T_X12_out 35 _ _ _ rfl) rfl (by decide) H fun y2 H => ?_
  refine g_goto (tgt := 33) (T_X12_out 36 _ _ _ rfl) (by decide) ?_
  refine g_weak [true, true, true, true, false, false, false, false] ?_
  exact hk33 _ _ _ _ _ H
def L_X12_out_33 (N : Nat) : Nat → Int → Int → Int → Hp → Option (Int × Hp)
  | 0, _, _, _, _ => none
  | n + 1, x1, x2, x3, h =>
    if 14 ≤ x3 then
      L_X12_out_76 N  N x1 x2 (-1) 0 0 h
    else
    bd (F_X12_isStreet N x3 h) fun y2 h1 =>
    if y2 = 0 then
      J_X12_out_61 N (L_X12_out_33 N n) x1 x2 x3 x3 0 h1
    else
    bd (F_X12_spared N x3 h1) fun y4 h3 =>
    J_X12_out_61 N (L_X12_out_33 N n) x1 x2 x3 x3 y4 h3
set_option maxRecDepth 100000 in
set_option maxHeartbeats 4000000 in
theorem R_L_X12_out_33 (N : Nat) : ∀ (n : Nat) (x1 : Int) (x2 : Int) (x3 : Int) (h : Hp) (res : Int × Hp), L_X12_out_33 N n x1 x2 x3 h = some res → Go M_X12_out 6 33 [some (.inr 84), some (.inl x1), some (.inl x2), some (.inl x3), none, none, none, none] [] h (Qi res)
  | 0, _, _, _, _, _, H => by cases H
  | n + 1, x1, x2, x3, h, res, H => by
    have ih := R_L_X12_out_33 N n
    simp only [L_X12_out_33] at H
    refine g_iload_n (T_X12_out 19 _ _ _ rfl) rfl ?_
    refine g_bipush (T_X12_out 20 _ _ _ rfl) (by decide) ?_
    refine g_icmp_ge (tgt := 68) (T_X12_out 21 _ _ _ rfl) (by decide) (fun cc => ?_) (fun cc => ?_)
    · replace H := ite_p cc H
      refine g_iconst (T_X12_out 37 _ _ _ rfl) ⟨by decide, by decide⟩ ?_
      refine g_istore_n (T_X12_out 38 _ _ _ rfl) (by decide) ?_
      refine g_iconst (T_X12_out 39 _ _ _ rfl) ⟨by decide, by decide⟩ ?_
      refine g_istore (T_X12_out 40 _ _ _ rfl) (by decide) ?_
      refine g_iconst (T_X12_out 41 _ _ _ rfl) ⟨by decide, by decide⟩ ?_
      refine g_istore (T_X12_out 42 _ _ _ rfl) (by decide) ?_
      refine g_weak [true, true, true, true, true, true, false, false] ?_
      refine R_L_X12_out_76 N   _ _ _ _ _ _ _ _ H
    · replace H := ite_n cc H
      refine g_aload_n (T_X12_out 22 _ _ _ rfl) rfl ?_
      refine g_getR (c := 83) (r := 123) (T_X12_out 23 _ _ _ rfl) fl_X12_125 rfl (nR rfl) rfl (by decide) ?_
      refine g_iload_n (T_X12_out 24 _ _ _ rfl) rfl ?_
      refine g_aload_n (T_X12_out 25 _ _ _ rfl) rfl ?_
      refine g_iload_n (T_X12_out 26 _ _ _ rfl) rfl ?_
      obtain ⟨y2, h1, hq, H⟩ := bd_some H
      refine g_callVi (M' := M_X12_isStreet) (c := 83) (av := [.inl x3]) (st := [.inl x3, .inr 123]) (T_X12_out 27 _ _ _ rfl) ml_X12_146 cb_X12_isStreet rfl rfl (Nat.le_of_ble_eq_true rfl) (by omega) (R_X12_isStreet N _ _ _ hq) ?_
      refine g_if_eq (tgt := 60) (T_X12_out 28 _ _ _ rfl) (by decide) (fun cc => ?_) (fun cc => ?_)
      · replace H := ite_p cc H
        refine g_iconst (T_X12_out 33 _ _ _ rfl) ⟨by decide, by decide⟩ ?_
        refine g_weak [true, true, true, true, false, false, false, false] ?_
        exact R_J_X12_out_61 N (L_X12_out_33 N n) ih _ _ _ _ _ _ _ H
      · replace H := ite_n cc H
        refine g_aload_n (T_X12_out 29 _ _ _ rfl) rfl ?_
        refine g_iload_n (T_X12_out 30 _ _ _ rfl) rfl ?_
        obtain ⟨y4, h3, hq, H⟩ := bd_some H
        refine g_callVi (M' := M_X12_spared) (c := 83) (av := [.inl x3]) (st := [.inl x3, .inr 123]) (T_X12_out 31 _ _ _ rfl) ml_X12_376 cb_X12_spared rfl rfl (Nat.le_of_ble_eq_true rfl) (by omega) (R_X12_spared N _ _ _ hq) ?_
        refine g_goto (tgt := 61) (T_X12_out 32 _ _ _ rfl) (by decide) ?_
        refine g_weak [true, true, true, true, false, false, false, false] ?_
        exact R_J_X12_out_61 N (L_X12_out_33 N n) ih _ _ _ _ _ _ _ H
def F_X12_out (N : Nat) (x1 : Int) (x2 : Int) (h : Hp) : Option (Int × Hp) :=
  bd (F_X12_in N x1 1 5 h) fun y2 h1 =>
  if y2 = 0 then
    some ((-1), h1)
  else
  bd (F_X12_bits N (h1 83 12) h1) fun y4 h3 =>
  if y4 < x1 then
    some ((-1), h3)
  else
  bd (F_X12_in N x2 0 1 h3) fun y6 h5 =>
  if y6 = 0 then
    some ((-1), h5)
  else
  L_X12_out_33 N  N x1 x2 0 h5
set_option maxRecDepth 100000 in
set_option maxHeartbeats 4000000 in
theorem R_X12_out (N : Nat) (x1 : Int) (x2 : Int) (h : Hp) (res : Int × Hp) (H : F_X12_out N x1 x2 h = some res) : Runs M_X12_out 6 [.inr 84, .inl x1, .inl x2] h (Qi res) := by
  refine Runs.of rfl (Nat.le_of_ble_eq_true rfl) ?_
  show Go M_X12_out 6 0 [some (.inr 84), some (.inl x1), some (.inl x2), none, none, none, none, none] [] h (Qi res)
  unfold F_X12_out at H
  refine g_iload_n (T_X12_out 0 _ _ _ rfl) rfl ?_
  refine g_iconst (T_X12_out 1 _ _ _ rfl) ⟨by decide, by decide⟩ ?_
  refine g_iconst (T_X12_out 2 _ _ _ rfl) ⟨by decide, by decide⟩ ?_
  obtain ⟨y2, h1, hq, H⟩ := bd_some H
  refine g_callSi (M' := M_X12_in) (av := [.inl x1, .inl 1, .inl 5]) (st := []) (T_X12_out 3 _ _ _ rfl) ml_X12_155 cb_X12_in rfl (Nat.le_of_ble_eq_true rfl) (by omega) (R_X12_in N _ _ _ _ _ hq) ?_
  refine g_if_eq (tgt := 29) (T_X12_out 4 _ _ _ rfl) (by decide) (fun cc => ?_) (fun cc => ?_)
  · replace H := ite_p cc H
    refine g_iconst (T_X12_out 15 _ _ _ rfl) ⟨by decide, by decide⟩ ?_
    exact g_iret (T_X12_out 16 _ _ _ rfl) rfl (qi_of H)
  · replace H := ite_n cc H
    refine g_iload_n (T_X12_out 5 _ _ _ rfl) rfl ?_
    refine g_aload_n (T_X12_out 6 _ _ _ rfl) rfl ?_
    refine g_getI (c := 83) (T_X12_out 7 _ _ _ rfl) fl_X12_135 rfl (Or.inl rfl) ?_
    obtain ⟨y4, h3, hq, H⟩ := bd_some H
    refine g_callSi (M' := M_X12_bits) (av := [.inl (h1 83 12)]) (st := [.inl x1]) (T_X12_out 8 _ _ _ rfl) ml_X12_348 cb_X12_bits rfl (Nat.le_of_ble_eq_true rfl) (by omega) (R_X12_bits N _ _ _ hq) ?_
    refine g_icmp_gt (tgt := 29) (T_X12_out 9 _ _ _ rfl) (by decide) (fun cc => ?_) (fun cc => ?_)
    · replace H := ite_p cc H
      refine g_iconst (T_X12_out 15 _ _ _ rfl) ⟨by decide, by decide⟩ ?_
      exact g_iret (T_X12_out 16 _ _ _ rfl) rfl (qi_of H)
    · replace H := ite_n cc H
      refine g_iload_n (T_X12_out 10 _ _ _ rfl) rfl ?_
      refine g_iconst (T_X12_out 11 _ _ _ rfl) ⟨by decide, by decide⟩ ?_
      refine g_iconst (T_X12_out 12 _ _ _ rfl) ⟨by decide, by decide⟩ ?_
      obtain ⟨y6, h5, hq, H⟩ := bd_some H
      refine g_callSi (M' := M_X12_in) (av := [.inl x2, .inl 0, .inl 1]) (st := []) (T_X12_out 13 _ _ _ rfl) ml_X12_155 cb_X12_in rfl (Nat.le_of_ble_eq_true rfl) (by omega) (R_X12_in N _ _ _ _ _ hq) ?_
      refine g_if_ne (tgt := 31) (T_X12_out 14 _ _ _ rfl) (by decide) (fun cc => ?_) (fun cc => ?_)
      · replace H := ite_n cc H
        refine g_iconst (T_X12_out 17 _ _ _ rfl) ⟨by decide, by decide⟩ ?_
        refine g_istore_n (T_X12_out 18 _ _ _ rfl) (by decide) ?_
        refine g_weak [true, true, true, true, false, false, false, false] ?_
        refine R_L_X12_out_33 N   _ _ _ _ _ _ H
      · replace H := ite_p cc H
        refine g_iconst (T_X12_out 15 _ _ _ rfl) ⟨by decide, by decide⟩ ?_
        exact g_iret (T_X12_out 16 _ _ _ rfl) rfl (qi_of H)
def L_X12_longestBy_101 (N : Nat) : Nat → Int → Int → Int → Hp → Option (Int × Hp)
  | 0, _, _, _, _ => none
  | n + 1, x3, x5, x6, h =>
    if x3 ≤ x6 then
      some (x5, h)
    else
    grd (0 ≤ x6 ∧ x6 < 3) <|
    bd (F_X12_max N x5 (h 123 x6.toNat) h) fun y2 h1 =>
    bnd (w32 (x6 + 1)) fun y3 =>
    (L_X12_longestBy_101 N n) x3 y2 y3 h1
set_option maxRecDepth 100000 in
set_option maxHeartbeats 4000000 in
theorem R_L_X12_longestBy_101 (N : Nat) : ∀ (n : Nat) (x3 : Int) (x5 : Int) (x6 : Int) (h : Hp) (res : Int × Hp), L_X12_longestBy_101 N n x3 x5 x6 h = some res → Go M_X12_longestBy 2 101 [some (.inr 84), none, none, some (.inl x3), none, some (.inl x5), some (.inl x6)] [] h (Qi res)
  | 0, _, _, _, _, _, H => by cases H
  | n + 1, x3, x5, x6, h, res, H => by
    have ih := R_L_X12_longestBy_101 N n
    simp only [L_X12_longestBy_101] at H
    refine g_iload (T_X12_longestBy 58 _ _ _ rfl) rfl ?_
    refine g_iload_n (T_X12_longestBy 59 _ _ _ rfl) rfl ?_
    refine g_icmp_ge (tgt := 127) (T_X12_longestBy 60 _ _ _ rfl) (by decide) (fun cc => ?_) (fun cc => ?_)
    · replace H := ite_p cc H
      refine g_iload (T_X12_longestBy 70 _ _ _ rfl) rfl ?_
      exact g_iret (T_X12_longestBy 71 _ _ _ rfl) rfl (qi_of H)
    · replace H := ite_n cc H
      refine g_iload (T_X12_longestBy 61 _ _ _ rfl) rfl ?_
      refine g_aload_n (T_X12_longestBy 62 _ _ _ rfl) rfl ?_
      refine g_getR (c := 83) (r := 124) (T_X12_longestBy 63 _ _ _ rfl) fl_X12_128 rfl (nR rfl) rfl (by decide) ?_
      refine g_iload (T_X12_longestBy 64 _ _ _ rfl) rfl ?_
      obtain ⟨hg, H⟩ := grd_some H
      refine g_iald (c := 123) (T_X12_longestBy 65 _ _ _ rfl) rfl hg ?_
      obtain ⟨y2, h1, hq, H⟩ := bd_some H
      refine g_callSi (M' := M_X12_max) (av := [.inl x5, .inl (h 123 x6.toNat)]) (st := []) (T_X12_longestBy 66 _ _ _ rfl) ml_X12_363 cb_X12_max rfl (Nat.le_of_ble_eq_true rfl) (by omega) (R_X12_max N _ _ _ _ hq) ?_
      refine g_istore (T_X12_longestBy 67 _ _ _ rfl) (by decide) ?_
      refine g_iincB (T_X12_longestBy 68 _ _ _ rfl) rfl (by decide) H fun y3 H => ?_
      refine g_goto (tgt := 101) (T_X12_longestBy 69 _ _ _ rfl) (by decide) ?_
      refine g_weak [true, false, false, true, false, true, true] ?_
      exact ih _ _ _ _ _ H
def L_X12_longestBy_31 (N : Nat) : Nat → Int → Int → Int → Hp → Option (Int × Hp)
  | 0, _, _, _, _ => none
  | n + 1, x3, x4, x5, h =>
    if x5 < 0 then
      L_X12_longestBy_101 N  N x3 0 0 h
    else
    grd (x3 ≠ 0) <|
    grd (0 ≤ x5 ∧ x5 < 8) <|
    bnd (hw h 119 x5.toNat (irem x4 x3)) fun h1 =>
    grd (x3 ≠ 0) <|
    bnd ((idiv x4 x3)) fun y2 =>
    grd (0 ≤ x5 ∧ x5 < 8) <|
    grd (0 ≤ x5 ∧ x5 < 8) <|
    grd (0 ≤ (h1 119 x5.toNat) ∧ (h1 119 x5.toNat) < 3) <|
    grd (0 ≤ x5 ∧ x5 < 260) <|
    grd (0 ≤ (h1 119 x5.toNat) ∧ (h1 119 x5.toNat) < 3) <|
    bnd (hw h1 123 (h1 119 x5.toNat).toNat (w32 ((h1 123 (h1 119 x5.toNat).toNat) + (iand (h1 96 x5.toNat) 255)))) fun h3 =>
    bnd (w32 (x5 + (-1))) fun y4 =>
    (L_X12_longestBy_31 N n) x3 y2 y4 h3
set_option maxRecDepth 100000 in
set_option maxHeartbeats 4000000 in
theorem R_L_X12_longestBy_31 (N : Nat) : ∀ (n : Nat) (x3 : Int) (x4 : Int) (x5 : Int) (h : Hp) (res : Int × Hp), L_X12_longestBy_31 N n x3 x4 x5 h = some res → Go M_X12_longestBy 2 31 [some (.inr 84), none, none, some (.inl x3), some (.inl x4), some (.inl x5), none] [] h (Qi res)
  | 0, _, _, _, _, _, H => by cases H
  | n + 1, x3, x4, x5, h, res, H => by
    have ih := R_L_X12_longestBy_31 N n
    simp only [L_X12_longestBy_31] at H
    refine g_iload (T_X12_longestBy 18 _ _ _ rfl) rfl ?_
    refine g_if_lt (tgt := 95) (T_X12_longestBy 19 _ _ _ rfl) (by decide) (fun cc => ?_) (fun cc => ?_)
    · replace H := ite_p cc H
      refine g_iconst (T_X12_longestBy 54 _ _ _ rfl) ⟨by decide, by decide⟩ ?_
      refine g_istore (T_X12_longestBy 55 _ _ _ rfl) (by decide) ?_
      refine g_iconst (T_X12_longestBy 56 _ _ _ rfl) ⟨by decide, by decide⟩ ?_
      refine g_istore (T_X12_longestBy 57 _ _ _ rfl) (by decide) ?_
      refine g_weak [true, false, false, true, false, true, true] ?_
      refine R_L_X12_longestBy_101 N   _ _ _ _ _ _ H
    · replace H := ite_n cc H
      refine g_aload_n (T_X12_longestBy 20 _ _ _ rfl) rfl ?_
      refine g_getR (c := 83) (r := 120) (T_X12_longestBy 21 _ _ _ rfl) fl_X12_116 rfl (nR rfl) rfl (by decide) ?_
      refine g_iload (T_X12_longestBy 22 _ _ _ rfl) rfl ?_
      refine g_iload (T_X12_longestBy 23 _ _ _ rfl) rfl ?_
      refine g_iload_n (T_X12_longestBy 24 _ _ _ rfl) rfl ?_
      obtain ⟨hg, H⟩ := grd_some H
      refine g_irem (T_X12_longestBy 25 _ _ _ rfl) hg ?_
      obtain ⟨hg, H⟩ := grd_some H
      refine g_iast (c := 119) (T_X12_longestBy 26 _ _ _ rfl) rfl hg ?_
      refine g_bndH H fun h1 H => ?_
      refine g_iload (T_X12_longestBy 27 _ _ _ rfl) rfl ?_
      refine g_iload_n (T_X12_longestBy 28 _ _ _ rfl) rfl ?_
      obtain ⟨hg, H⟩ := grd_some H
      refine g_idiv (T_X12_longestBy 29 _ _ _ rfl) hg ?_
      refine g_bndI H fun y2 H => ?_
      refine g_istore (T_X12_longestBy 30 _ _ _ rfl) (by decide) ?_
      refine g_aload_n (T_X12_longestBy 31 _ _ _ rfl) rfl ?_
      refine g_getR (c := 83) (r := 124) (T_X12_longestBy 32 _ _ _ rfl) fl_X12_128 rfl (nR rfl) rfl (by decide) ?_
      refine g_aload_n (T_X12_longestBy 33 _ _ _ rfl) rfl ?_
      refine g_getR (c := 83) (r := 120) (T_X12_longestBy 34 _ _ _ rfl) fl_X12_116 rfl (nR rfl) rfl (by decide) ?_
      refine g_iload (T_X12_longestBy 35 _ _ _ rfl) rfl ?_
      obtain ⟨hg, H⟩ := grd_some H
      refine g_iald (c := 119) (T_X12_longestBy 36 _ _ _ rfl) rfl hg ?_
      refine g_aload_n (T_X12_longestBy 37 _ _ _ rfl) rfl ?_
      refine g_getR (c := 83) (r := 124) (T_X12_longestBy 38 _ _ _ rfl) fl_X12_128 rfl (nR rfl) rfl (by decide) ?_
      refine g_aload_n (T_X12_longestBy 39 _ _ _ rfl) rfl ?_
      refine g_getR (c := 83) (r := 120) (T_X12_longestBy 40 _ _ _ rfl) fl_X12_116 rfl (nR rfl) rfl (by decide) ?_
      refine g_iload (T_X12_longestBy 41 _ _ _ rfl) rfl ?_
      obtain ⟨hg, H⟩ := grd_some H
      refine g_iald (c := 119) (T_X12_longestBy 42 _ _ _ rfl) rfl hg ?_
      obtain ⟨hg, H⟩ := grd_some H
      refine g_iald (c := 123) (T_X12_longestBy 43 _ _ _ rfl) rfl hg ?_
      refine g_aload_n (T_X12_longestBy 44 _ _ _ rfl) rfl ?_
      refine g_getR (c := 83) (r := 97) (T_X12_longestBy 45 _ _ _ rfl) fl_X12_46 rfl (nR rfl) rfl (by decide) ?_
      refine g_iload (T_X12_longestBy 46 _ _ _ rfl) rfl ?_
      obtain ⟨hg, H⟩ := grd_some H
      refine g_bald (c := 96) (T_X12_longestBy 47 _ _ _ rfl) rfl hg ?_
      refine g_sipush (T_X12_longestBy 48 _ _ _ rfl) (by decide) ?_
      refine g_iand (T_X12_longestBy 49 _ _ _ rfl) ?_
      refine g_iadd (T_X12_longestBy 50 _ _ _ rfl) ?_
      obtain ⟨hg, H⟩ := grd_some H
      refine g_iast (c := 123) (T_X12_longestBy 51 _ _ _ rfl) rfl hg ?_
      refine g_bndH H fun h3 H => ?_
      refine g_iincB (T_X12_longestBy 52 _ _ _ rfl) rfl (by decide) H fun y4 H => ?_
      refine g_goto (tgt := 31) (T_X12_longestBy 53 _ _ _ rfl) (by decide) ?_
      refine g_weak [true, false, false, true, true, true, false] ?_
      exact ih _ _ _ _ _ H
def L_X12_longestBy_6 (N : Nat) : Nat → Int → Int → Int → Int → Hp → Option (Int × Hp)
  | 0, _, _, _, _, _ => none
  | n + 1, x2, x3, x4, x5, h =>
    if x3 ≤ x5 then
      bnd ((w32 (x2 - 1))) fun y1 =>
      L_X12_longestBy_31 N  N x3 x4 y1 h
    else
    grd (0 ≤ x5 ∧ x5 < 3) <|
    bnd (hw h 123 x5.toNat 0) fun h2 =>
    bnd (w32 (x5 + 1)) fun y3 =>
    (L_X12_longestBy_6 N n) x2 x3 x4 y3 h2
set_option maxRecDepth 100000 in
set_option maxHeartbeats 4000000 in
theorem R_L_X12_longestBy_6 (N : Nat) : ∀ (n : Nat) (x2 : Int) (x3 : Int) (x4 : Int) (x5 : Int) (h : Hp) (res : Int × Hp), L_X12_longestBy_6 N n x2 x3 x4 x5 h = some res → Go M_X12_longestBy 2 6 [some (.inr 84), none, some (.inl x2), some (.inl x3), some (.inl x4), some (.inl x5), none] [] h (Qi res)
  | 0, _, _, _, _, _, _, H => by cases H
  | n + 1, x2, x3, x4, x5, h, res, H => by
    have ih := R_L_X12_longestBy_6 N n
    simp only [L_X12_longestBy_6] at H
    refine g_iload (T_X12_longestBy 4 _ _ _ rfl) rfl ?_
    refine g_iload_n (T_X12_longestBy 5 _ _ _ rfl) rfl ?_
    refine g_icmp_ge (tgt := 26) (T_X12_longestBy 6 _ _ _ rfl) (by decide) (fun cc => ?_) (fun cc => ?_)
    · replace H := ite_p cc H
      refine g_iload_n (T_X12_longestBy 14 _ _ _ rfl) rfl ?_
      refine g_iconst (T_X12_longestBy 15 _ _ _ rfl) ⟨by decide, by decide⟩ ?_
      refine g_isub (T_X12_longestBy 16 _ _ _ rfl) ?_
      refine g_bndI H fun y1 H => ?_
      refine g_istore (T_X12_longestBy 17 _ _ _ rfl) (by decide) ?_
      refine g_weak [true, false, false, true, true, true, false] ?_
      refine R_L_X12_longestBy_31 N   _ _ _ _ _ _ H
    · replace H := ite_n cc H
      refine g_aload_n (T_X12_longestBy 7 _ _ _ rfl) rfl ?_
      refine g_getR (c := 83) (r := 124) (T_X12_longestBy 8 _ _ _ rfl) fl_X12_128 rfl (nR rfl) rfl (by decide) ?_
      refine g_iload (T_X12_longestBy 9 _ _ _ rfl) rfl ?_
      refine g_iconst (T_X12_longestBy 10 _ _ _ rfl) ⟨by decide, by decide⟩ ?_
      obtain ⟨hg, H⟩ := grd_some H
      refine g_iast (c := 123) (T_X12_longestBy 11 _ _ _ rfl) rfl hg ?_
      refine g_bndH H fun h2 H => ?_
      refine g_iincB (T_X12_longestBy 12 _ _ _ rfl) rfl (by decide) H fun y3 H => ?_
      refine g_goto (tgt := 6) (T_X12_longestBy 13 _ _ _ rfl) (by decide) ?_
      refine g_weak [true, false, true, true, true, true, false] ?_
      exact ih _ _ _ _ _ _ H
def F_X12_longestBy (N : Nat) (x1 : Int) (x2 : Int) (x3 : Int) (h : Hp) : Option (Int × Hp) :=
  L_X12_longestBy_6 N  N x2 x3 x1 0 h
set_option maxRecDepth 100000 in
set_option maxHeartbeats 4000000 in
theorem R_X12_longestBy (N : Nat) (x1 : Int) (x2 : Int) (x3 : Int) (h : Hp) (res : Int × Hp) (H : F_X12_longestBy N x1 x2 x3 h = some res) : Runs M_X12_longestBy 2 [.inr 84, .inl x1, .inl x2, .inl x3] h (Qi res) := by
  refine Runs.of rfl (Nat.le_of_ble_eq_true rfl) ?_
  show Go M_X12_longestBy 2 0 [some (.inr 84), some (.inl x1), some (.inl x2), some (.inl x3), none, none, none] [] h (Qi res)
  unfold F_X12_longestBy at H
  refine g_iload_n (T_X12_longestBy 0 _ _ _ rfl) rfl ?_
  refine g_istore (T_X12_longestBy 1 _ _ _ rfl) (by decide) ?_
  refine g_iconst (T_X12_longestBy 2 _ _ _ rfl) ⟨by decide, by decide⟩ ?_
  refine g_istore (T_X12_longestBy 3 _ _ _ rfl) (by decide) ?_
  refine g_weak [true, false, true, true, true, true, false] ?_
  refine R_L_X12_longestBy_6 N   _ _ _ _ _ _ _ H
def J_X12_jobs_102 (N : Nat) (k64 : Int → Int → Int → Int → Int → Int → Hp → Option (Int × Hp)) (x1 : Int) (x2 : Int) (x3 : Int) (x4 : Int) (x5 : Int) (x6 : Int) (h : Hp) : Option (Int × Hp) :=
  bnd (w32 (x6 + 1)) fun y1 =>
  k64 x1 x2 x3 x4 x5 y1 h
set_option maxRecDepth 100000 in
set_option maxHeartbeats 4000000 in
theorem R_J_X12_jobs_102 (N : Nat) (k64 : Int → Int → Int → Int → Int → Int → Hp → Option (Int × Hp)) (hk64 : ∀ (x1 : Int) (x2 : Int) (x3 : Int) (x4 : Int) (x5 : Int) (x6 : Int) (h : Hp) (res : Int × Hp), k64 x1 x2 x3 x4 x5 x6 h = some res → Go M_X12_jobs 3 64 [some (.inr 84), some (.inl x1), some (.inl x2), some (.inl x3), some (.inl x4), some (.inl x5), some (.inl x6), none] [] h (Qi res)) (x1 : Int) (x2 : Int) (x3 : Int) (x4 : Int) (x5 : Int) (x6 : Int) (h : Hp) (res : Int × Hp) (H : J_X12_jobs_102 N k64 x1 x2 x3 x4 x5 x6 h = some res) : Go M_X12_jobs 3 102 [some (.inr 84), some (.inl x1), some (.inl x2), some (.inl x3), some (.inl x4), some (.inl x5), some (.inl x6), none] [] h (Qi res) := by
  unfold J_X12_jobs_102 at H
  refine g_iincB (T_X12_jobs 56 _ _ _ rfl) rfl (by decide) H fun y1 H => ?_
  refine g_goto (tgt := 64) (T_X12_jobs 57 _ _ _ rfl) (by decide) ?_
  refine g_weak [true, true, true, true, true, true, true, false] ?_
  exact hk64 _ _ _ _ _ _ _ _ H
def L_X12_jobs_64 (N : Nat) : Nat → Int → Int → Int → Int → Int → Int → Hp → Option (Int × Hp)
  | 0, _, _, _, _, _, _, _ => none
  | n + 1, x1, x2, x3, x4, x5, x6, h =>
    bd (F_X12_codesFor N x2 x1 h) fun y2 h1 =>
    if y2 ≤ x6 then
      if x3 = 10 then
        some (x5, h1)
      else
      bd (F_X12_longestBy N x4 x1 x2 h1) fun y4 h3 =>
      grd (0 ≤ x3 ∧ x3 < 8) <|
      some ((h3 119 x3.toNat), h3)
    else
    bd (F_X12_longestBy N x6 x1 x2 h1) fun y6 h5 =>
    if y6 < x5 then
      J_X12_jobs_102 N (L_X12_jobs_64 N n) x1 x2 x3 x6 y6 x6 h5
    else
    J_X12_jobs_102 N (L_X12_jobs_64 N n) x1 x2 x3 x4 x5 x6 h5
set_option maxRecDepth 100000 in
set_option maxHeartbeats 4000000 in
theorem R_L_X12_jobs_64 (N : Nat) : ∀ (n : Nat) (x1 : Int) (x2 : Int) (x3 : Int) (x4 : Int) (x5 : Int) (x6 : Int) (h : Hp) (res : Int × Hp), L_X12_jobs_64 N n x1 x2 x3 x4 x5 x6 h = some res → Go M_X12_jobs 3 64 [some (.inr 84), some (.inl x1), some (.inl x2), some (.inl x3), some (.inl x4), some (.inl x5), some (.inl x6), none] [] h (Qi res)
  | 0, _, _, _, _, _, _, _, _, H => by cases H
  | n + 1, x1, x2, x3, x4, x5, x6, h, res, H => by
    have ih := R_L_X12_jobs_64 N n
    simp only [L_X12_jobs_64] at H
    refine g_iload (T_X12_jobs 37 _ _ _ rfl) rfl ?_
    refine g_iload_n (T_X12_jobs 38 _ _ _ rfl) rfl ?_
    refine g_iload_n (T_X12_jobs 39 _ _ _ rfl) rfl ?_
    obtain ⟨y2, h1, hq, H⟩ := bd_some H
    refine g_callSi (M' := M_X12_codesFor) (av := [.inl x2, .inl x1]) (st := [.inl x6]) (T_X12_jobs 40 _ _ _ rfl) ml_X12_354 cb_X12_codesFor rfl (Nat.le_of_ble_eq_true rfl) (by omega) (R_X12_codesFor N _ _ _ _ hq) ?_
    refine g_icmp_ge (tgt := 108) (T_X12_jobs 41 _ _ _ rfl) (by decide) (fun cc => ?_) (fun cc => ?_)
    · replace H := ite_p cc H
      refine g_iload_n (T_X12_jobs 58 _ _ _ rfl) rfl ?_
      refine g_bipush (T_X12_jobs 59 _ _ _ rfl) (by decide) ?_
      refine g_icmp_ne (tgt := 117) (T_X12_jobs 60 _ _ _ rfl) (by decide) (fun cc => ?_) (fun cc => ?_)
      · replace H := ite_n cc H
        refine g_aload_n (T_X12_jobs 63 _ _ _ rfl) rfl ?_
        refine g_iload (T_X12_jobs 64 _ _ _ rfl) rfl ?_
        refine g_iload_n (T_X12_jobs 65 _ _ _ rfl) rfl ?_
        refine g_iload_n (T_X12_jobs 66 _ _ _ rfl) rfl ?_
        obtain ⟨y4, h3, hq, H⟩ := bd_some H
        refine g_callVi (M' := M_X12_longestBy) (c := 83) (av := [.inl x4, .inl x1, .inl x2]) (st := []) (T_X12_jobs 67 _ _ _ rfl) ml_X12_379 cb_X12_longestBy rfl rfl (Nat.le_of_ble_eq_true rfl) (by omega) (R_X12_longestBy N _ _ _ _ _ hq) ?_
        refine g_pop (T_X12_jobs 68 _ _ _ rfl) ?_
        refine g_aload_n (T_X12_jobs 69 _ _ _ rfl) rfl ?_
        refine g_getR (c := 83) (r := 120) (T_X12_jobs 70 _ _ _ rfl) fl_X12_116 rfl (nR rfl) rfl (by decide) ?_
        refine g_iload_n (T_X12_jobs 71 _ _ _ rfl) rfl ?_
        obtain ⟨hg, H⟩ := grd_some H
        refine g_iald (c := 119) (T_X12_jobs 72 _ _ _ rfl) rfl hg ?_
        exact g_iret (T_X12_jobs 73 _ _ _ rfl) rfl (qi_of H)
      · replace H := ite_p cc H
        refine g_iload (T_X12_jobs 61 _ _ _ rfl) rfl ?_
        exact g_iret (T_X12_jobs 62 _ _ _ rfl) rfl (qi_of H)
    · replace H := ite_n cc H
      refine g_aload_n (T_X12_jobs 42 _ _ _ rfl) rfl ?_
      refine g_iload (T_X12_jobs 43 _ _ _ rfl) rfl ?_
      refine g_iload_n (T_X12_jobs 44 _ _ _ rfl) rfl ?_
      refine g_iload_n (T_X12_jobs 45 _ _ _ rfl) rfl ?_
      obtain ⟨y6, h5, hq, H⟩ := bd_some H
      refine g_callVi (M' := M_X12_longestBy) (c := 83) (av := [.inl x6, .inl x1, .inl x2]) (st := []) (T_X12_jobs 46 _ _ _ rfl) ml_X12_379 cb_X12_longestBy rfl rfl (Nat.le_of_ble_eq_true rfl) (by omega) (R_X12_longestBy N _ _ _ _ _ hq) ?_
      refine g_istore (T_X12_jobs 47 _ _ _ rfl) (by decide) ?_
      refine g_iload (T_X12_jobs 48 _ _ _ rfl) rfl ?_
      refine g_iload (T_X12_jobs 49 _ _ _ rfl) rfl ?_
      refine g_icmp_lt (tgt := 94) (T_X12_jobs 50 _ _ _ rfl) (by decide) (fun cc => ?_) (fun cc => ?_)
      · replace H := ite_p cc H
        refine g_iload (T_X12_jobs 52 _ _ _ rfl) rfl ?_
        refine g_istore (T_X12_jobs 53 _ _ _ rfl) (by decide) ?_
        refine g_iload (T_X12_jobs 54 _ _ _ rfl) rfl ?_
        refine g_istore (T_X12_jobs 55 _ _ _ rfl) (by decide) ?_
        refine g_weak [true, true, true, true, true, true, true, false] ?_
        exact R_J_X12_jobs_102 N (L_X12_jobs_64 N n) ih _ _ _ _ _ _ _ _ H
      · replace H := ite_n cc H
        refine g_goto (tgt := 102) (T_X12_jobs 51 _ _ _ rfl) (by decide) ?_
        refine g_weak [true, true, true, true, true, true, true, false] ?_
        exact R_J_X12_jobs_102 N (L_X12_jobs_64 N n) ih _ _ _ _ _ _ _ _ H
def J_X12_jobs_54 (N : Nat) (x1 : Int) (x2 : Int) (x3 : Int) (h : Hp) : Option (Int × Hp) :=
  L_X12_jobs_64 N  N x1 x2 x3 (-1) 1000000 0 h
set_option maxRecDepth 100000 in
set_option maxHeartbeats 4000000 in
theorem R_J_X12_jobs_54 (N : Nat) (x1 : Int) (x2 : Int) (x3 : Int) (h : Hp) (res : Int × Hp) (H : J_X12_jobs_54 N x1 x2 x3 h = some res) : Go M_X12_jobs 3 54 [some (.inr 84), some (.inl x1), some (.inl x2), some (.inl x3), none, none, none, none] [] h (Qi res) := by
  unfold J_X12_jobs_54 at H
  refine g_iconst (T_X12_jobs 31 _ _ _ rfl) ⟨by decide, by decide⟩ ?_
  refine g_istore (T_X12_jobs 32 _ _ _ rfl) (by decide) ?_
  refine g_ldc (T_X12_jobs 33 _ _ _ rfl) kc_X12_150 ⟨by decide, by decide⟩ ?_
  refine g_istore (T_X12_jobs 34 _ _ _ rfl) (by decide) ?_
  refine g_iconst (T_X12_jobs 35 _ _ _ rfl) ⟨by decide, by decide⟩ ?_
  refine g_istore (T_X12_jobs 36 _ _ _ rfl) (by decide) ?_
  refine g_weak [true, true, true, true, true, true, true, false] ?_
  refine R_L_X12_jobs_64 N   _ _ _ _ _ _ _ _ _ H
def F_X12_jobs (N : Nat) (x1 : Int) (x2 : Int) (x3 : Int) (h : Hp) : Option (Int × Hp) :=
  bd (F_X12_in N x1 1 8 h) fun y2 h1 =>
  if y2 = 0 then
    some ((-1), h1)
  else
  if x1 ≤ (h1 83 15) then
    bnd (hw h1 83 15 0) fun h3 =>
    bd (F_X12_in N x2 1 3 h3) fun y5 h4 =>
    if y5 = 0 then
      some ((-4), h4)
    else
    if x3 = 10 then
      J_X12_jobs_54 N  x1 x2 x3 h4
    else
    bd (F_X12_in N x3 0 (w32 (x1 - 1)) h4) fun y7 h6 =>
    if y7 = 0 then
      some ((-4), h6)
    else
    J_X12_jobs_54 N  x1 x2 x3 h6
  else
  some ((-1), h1)
set_option maxRecDepth 100000 in
set_option maxHeartbeats 4000000 in
theorem R_X12_jobs (N : Nat) (x1 : Int) (x2 : Int) (x3 : Int) (h : Hp) (res : Int × Hp) (H : F_X12_jobs N x1 x2 x3 h = some res) : Runs M_X12_jobs 3 [.inr 84, .inl x1, .inl x2, .inl x3] h (Qi res) := by
  refine Runs.of rfl (Nat.le_of_ble_eq_true rfl) ?_
  show Go M_X12_jobs 3 0 [some (.inr 84), some (.inl x1), some (.inl x2), some (.inl x3), none, none, none, none] [] h (Qi res)
  unfold F_X12_jobs at H
  refine g_iload_n (T_X12_jobs 0 _ _ _ rfl) rfl ?_
  refine g_iconst (T_X12_jobs 1 _ _ _ rfl) ⟨by decide, by decide⟩ ?_
  refine g_bipush (T_X12_jobs 2 _ _ _ rfl) (by decide) ?_
  obtain ⟨y2, h1, hq, H⟩ := bd_some H
  refine g_callSi (M' := M_X12_in) (av := [.inl x1, .inl 1, .inl 8]) (st := []) (T_X12_jobs 3 _ _ _ rfl) ml_X12_155 cb_X12_in rfl (Nat.le_of_ble_eq_true rfl) (by omega) (R_X12_in N _ _ _ _ _ hq) ?_
  refine g_if_eq (tgt := 18) (T_X12_jobs 4 _ _ _ rfl) (by decide) (fun cc => ?_) (fun cc => ?_)
  · replace H := ite_p cc H
    refine g_iconst (T_X12_jobs 9 _ _ _ rfl) ⟨by decide, by decide⟩ ?_
    exact g_iret (T_X12_jobs 10 _ _ _ rfl) rfl (qi_of H)
  · replace H := ite_n cc H
    refine g_iload_n (T_X12_jobs 5 _ _ _ rfl) rfl ?_
    refine g_aload_n (T_X12_jobs 6 _ _ _ rfl) rfl ?_
    refine g_getI (c := 83) (T_X12_jobs 7 _ _ _ rfl) fl_X12_159 rfl (Or.inl rfl) ?_
    refine g_icmp_le (tgt := 20) (T_X12_jobs 8 _ _ _ rfl) (by decide) (fun cc => ?_) (fun cc => ?_)
    · replace H := ite_p cc H
      refine g_aload_n (T_X12_jobs 11 _ _ _ rfl) rfl ?_
      refine g_iconst (T_X12_jobs 12 _ _ _ rfl) ⟨by decide, by decide⟩ ?_
      refine g_put (c := 83) (T_X12_jobs 13 _ _ _ rfl) fl_X12_159 rfl (Or.inl rfl) ?_
      refine g_bndH H fun h3 H => ?_
      refine g_iload_n (T_X12_jobs 14 _ _ _ rfl) rfl ?_
      refine g_iconst (T_X12_jobs 15 _ _ _ rfl) ⟨by decide, by decide⟩ ?_
      refine g_iconst (T_X12_jobs 16 _ _ _ rfl) ⟨by decide, by decide⟩ ?_
      obtain ⟨y5, h4, hq, H⟩ := bd_some H
      refine g_callSi (M' := M_X12_in) (av := [.inl x2, .inl 1, .inl 3]) (st := []) (T_X12_jobs 17 _ _ _ rfl) ml_X12_155 cb_X12_in rfl (Nat.le_of_ble_eq_true rfl) (by omega) (R_X12_in N _ _ _ _ _ hq) ?_
      refine g_if_eq (tgt := 51) (T_X12_jobs 18 _ _ _ rfl) (by decide) (fun cc => ?_) (fun cc => ?_)
      · replace H := ite_p cc H
        refine g_bipush (T_X12_jobs 29 _ _ _ rfl) (by decide) ?_
        exact g_iret (T_X12_jobs 30 _ _ _ rfl) rfl (qi_of H)
      · replace H := ite_n cc H
        refine g_iload_n (T_X12_jobs 19 _ _ _ rfl) rfl ?_
        refine g_bipush (T_X12_jobs 20 _ _ _ rfl) (by decide) ?_
        refine g_icmp_eq (tgt := 54) (T_X12_jobs 21 _ _ _ rfl) (by decide) (fun cc => ?_) (fun cc => ?_)
        · replace H := ite_p cc H
          refine g_weak [true, true, true, true, false, false, false, false] ?_
          exact R_J_X12_jobs_54 N   _ _ _ _ _ H
        · replace H := ite_n cc H
          refine g_iload_n (T_X12_jobs 22 _ _ _ rfl) rfl ?_
          refine g_iconst (T_X12_jobs 23 _ _ _ rfl) ⟨by decide, by decide⟩ ?_
          refine g_iload_n (T_X12_jobs 24 _ _ _ rfl) rfl ?_
          refine g_iconst (T_X12_jobs 25 _ _ _ rfl) ⟨by decide, by decide⟩ ?_
          refine g_isub (T_X12_jobs 26 _ _ _ rfl) ?_
          obtain ⟨y7, h6, hq, H⟩ := bd_some H
          refine g_callSi (M' := M_X12_in) (av := [.inl x3, .inl 0, .inl (w32 (x1 - 1))]) (st := []) (T_X12_jobs 27 _ _ _ rfl) ml_X12_155 cb_X12_in rfl (Nat.le_of_ble_eq_true rfl) (by omega) (R_X12_in N _ _ _ _ _ hq) ?_
          refine g_if_ne (tgt := 54) (T_X12_jobs 28 _ _ _ rfl) (by decide) (fun cc => ?_) (fun cc => ?_)
          · replace H := ite_n cc H
            refine g_weak [true, true, true, true, false, false, false, false] ?_
            exact R_J_X12_jobs_54 N   _ _ _ _ _ H
          · replace H := ite_p cc H
            refine g_bipush (T_X12_jobs 29 _ _ _ rfl) (by decide) ?_
            exact g_iret (T_X12_jobs 30 _ _ _ rfl) rfl (qi_of H)
    · replace H := ite_n cc H
      refine g_iconst (T_X12_jobs 9 _ _ _ rfl) ⟨by decide, by decide⟩ ?_
      exact g_iret (T_X12_jobs 10 _ _ _ rfl) rfl (qi_of H)
def J_X12_load_144 (N : Nat) (k75 : Int → Int → Int → Int → Int → Int → Int → Int → Int → Hp → Option (Int × Hp)) (x1 : Int) (x2 : Int) (x3 : Int) (x4 : Int) (x5 : Int) (x6 : Int) (x7 : Int) (x9 : Int) (s0 : Int) (s1 : Int) (h : Hp) : Option (Int × Hp) :=
  bnd ((w32 (s0 + s1))) fun y1 =>
  bnd (w32 (x9 + 1)) fun y2 =>
  k75 x1 x2 x3 x4 x5 x6 x7 y1 y2 h
set_option maxRecDepth 100000 in
set_option maxHeartbeats 4000000 in
theorem R_J_X12_load_144 (N : Nat) (k75 : Int → Int → Int → Int → Int → Int → Int → Int → Int → Hp → Option (Int × Hp)) (hk75 : ∀ (x1 : Int) (x2 : Int) (x3 : Int) (x4 : Int) (x5 : Int) (x6 : Int) (x7 : Int) (x8 : Int) (x9 : Int) (h : Hp) (res : Int × Hp), k75 x1 x2 x3 x4 x5 x6 x7 x8 x9 h = some res → Go M_X12_load 2 75 [some (.inr 84), some (.inl x1), some (.inl x2), some (.inl x3), some (.inl x4), some (.inl x5), some (.inl x6), some (.inl x7), some (.inl x8), some (.inl x9)] [] h (Qi res)) (x1 : Int) (x2 : Int) (x3 : Int) (x4 : Int) (x5 : Int) (x6 : Int) (x7 : Int) (x9 : Int) (s0 : Int) (s1 : Int) (h : Hp) (res : Int × Hp) (H : J_X12_load_144 N k75 x1 x2 x3 x4 x5 x6 x7 x9 s0 s1 h = some res) : Go M_X12_load 2 144 [some (.inr 84), some (.inl x1), some (.inl x2), some (.inl x3), some (.inl x4), some (.inl x5), some (.inl x6), some (.inl x7), none, some (.inl x9)] [.inl s1, .inl s0] h (Qi res) := by
  unfold J_X12_load_144 at H
  refine g_iadd (T_X12_load 80 _ _ _ rfl) ?_
  refine g_bndI H fun y1 H => ?_
  refine g_istore (T_X12_load 81 _ _ _ rfl) (by decide) ?_
  refine g_iincB (T_X12_load 82 _ _ _ rfl) rfl (by decide) H fun y2 H => ?_
  refine g_goto (tgt := 75) (T_X12_load 83 _ _ _ rfl) (by decide) ?_
  refine g_weak [true, true, true, true, true, true, true, true, true, true] ?_
  exact hk75 _ _ _ _ _ _ _ _ _ _ _ H
def J_X12_load_110 (N : Nat) (k75 : Int → Int → Int → Int → Int → Int → Int → Int → Int → Hp → Option (Int × Hp)) (x1 : Int) (x2 : Int) (x3 : Int) (x4 : Int) (x5 : Int) (x6 : Int) (x8 : Int) (x9 : Int) (s0 : Int) (s1 : Int) (h : Hp) : Option (Int × Hp) :=
  bnd ((w32 (s0 + s1))) fun y1 =>
  bd (F_X12_has N x6 x9 h) fun y3 h2 =>
  if y3 = 0 then
    J_X12_load_144 N k75 x1 x2 x3 x4 x5 x6 y1 x9 x8 0 h2
  else
  grd (0 ≤ (w32 ((w32 (2 * x9)) + 1)) ∧ (w32 ((w32 (2 * x9)) + 1)) < 260) <|
  J_X12_load_144 N k75 x1 x2 x3 x4 x5 x6 y1 x9 x8 (iand (h2 96 (w32 ((w32 (2 * x9)) + 1)).toNat) 255) h2
set_option maxRecDepth 100000 in
set_option maxHeartbeats 4000000 in
theorem R_J_X12_load_110 (N : Nat) (k75 : Int → Int → Int → Int → Int → Int → Int → Int → Int → Hp → Option (Int × Hp)) (hk75 : ∀ (x1 : Int) (x2 : Int) (x3 : Int) (x4 : Int) (x5 : Int) (x6 : Int) (x7 : Int) (x8 : Int) (x9 : Int) (h : Hp) (res : Int × Hp), k75 x1 x2 x3 x4 x5 x6 x7 x8 x9 h = some res → Go M_X12_load 2 75 [some (.inr 84), some (.inl x1), some (.inl x2), some (.inl x3), some (.inl x4), some (.inl x5), some (.inl x6), some (.inl x7), some (.inl x8), some (.inl x9)] [] h (Qi res)) (x1 : Int) (x2 : Int) (x3 : Int) (x4 : Int) (x5 : Int) (x6 : Int) (x8 : Int) (x9 : Int) (s0 : Int) (s1 : Int) (h : Hp) (res : Int × Hp) (H : J_X12_load_110 N k75 x1 x2 x3 x4 x5 x6 x8 x9 s0 s1 h = some res) : Go M_X12_load 2 110 [some (.inr 84), some (.inl x1), some (.inl x2), some (.inl x3), some (.inl x4), some (.inl x5), some (.inl x6), none, some (.inl x8), some (.inl x9)] [.inl s1, .inl s0] h (Qi res) := by
  unfold J_X12_load_110 at H
  refine g_iadd (T_X12_load 61 _ _ _ rfl) ?_
  refine g_bndI H fun y1 H => ?_
  refine g_istore (T_X12_load 62 _ _ _ rfl) (by decide) ?_
  refine g_iload (T_X12_load 63 _ _ _ rfl) rfl ?_
  refine g_iload (T_X12_load 64 _ _ _ rfl) rfl ?_
  refine g_iload (T_X12_load 65 _ _ _ rfl) rfl ?_
  obtain ⟨y3, h2, hq, H⟩ := bd_some H
  refine g_callSi (M' := M_X12_has) (av := [.inl x6, .inl x9]) (st := [.inl x8]) (T_X12_load 66 _ _ _ rfl) ml_X12_139 cb_X12_has rfl (Nat.le_of_ble_eq_true rfl) (by omega) (R_X12_has N _ _ _ _ hq) ?_
  refine g_if_eq (tgt := 143) (T_X12_load 67 _ _ _ rfl) (by decide) (fun cc => ?_) (fun cc => ?_)
  · replace H := ite_p cc H
    refine g_iconst (T_X12_load 79 _ _ _ rfl) ⟨by decide, by decide⟩ ?_
    refine g_weak [true, true, true, true, true, true, true, true, false, true] ?_
    exact R_J_X12_load_144 N k75 hk75 _ _ _ _ _ _ _ _ _ _ _ _ H
  · replace H := ite_n cc H
    refine g_aload_n (T_X12_load 68 _ _ _ rfl) rfl ?_
    refine g_getR (c := 83) (r := 97) (T_X12_load 69 _ _ _ rfl) fl_X12_46 rfl (nR rfl) rfl (by decide) ?_
    refine g_iconst (T_X12_load 70 _ _ _ rfl) ⟨by decide, by decide⟩ ?_
    refine g_iload (T_X12_load 71 _ _ _ rfl) rfl ?_
    refine g_imul (T_X12_load 72 _ _ _ rfl) ?_
    refine g_iconst (T_X12_load 73 _ _ _ rfl) ⟨by decide, by decide⟩ ?_
    refine g_iadd (T_X12_load 74 _ _ _ rfl) ?_
    obtain ⟨hg, H⟩ := grd_some H
    refine g_bald (c := 96) (T_X12_load 75 _ _ _ rfl) rfl hg ?_
    refine g_sipush (T_X12_load 76 _ _ _ rfl) (by decide) ?_
    refine g_iand (T_X12_load 77 _ _ _ rfl) ?_
    refine g_goto (tgt := 144) (T_X12_load 78 _ _ _ rfl) (by decide) ?_
    refine g_weak [true, true, true, true, true, true, true, true, false, true] ?_
    exact R_J_X12_load_144 N k75 hk75 _ _ _ _ _ _ _ _ _ _ _ _ H
def L_X12_load_75 (N : Nat) (k153 : Int → Int → Int → Int → Int → Int → Int → Int → Hp → Option (Int × Hp)) : Nat → Int → Int → Int → Int → Int → Int → Int → Int → Int → Hp → Option (Int × Hp)
  | 0, _, _, _, _, _, _, _, _, _, _ => none
  | n + 1, x1, x2, x3, x4, x5, x6, x7, x8, x9, h =>
    if x1 ≤ x9 then
      k153 x1 x2 x3 x4 x5 x6 x7 x8 h
    else
    bd (F_X12_has N x6 x9 h) fun y2 h1 =>
    if y2 = 0 then
      J_X12_load_110 N (L_X12_load_75 N k153 n) x1 x2 x3 x4 x5 x6 x8 x9 x7 0 h1
    else
    grd (0 ≤ (w32 (2 * x9)) ∧ (w32 (2 * x9)) < 260) <|
    J_X12_load_110 N (L_X12_load_75 N k153 n) x1 x2 x3 x4 x5 x6 x8 x9 x7 (iand (h1 96 (w32 (2 * x9)).toNat) 255) h1
set_option maxRecDepth 100000 in
set_option maxHeartbeats 4000000 in
theorem R_L_X12_load_75 (N : Nat) (k153 : Int → Int → Int → Int → Int → Int → Int → Int → Hp → Option (Int × Hp)) (hk153 : ∀ (x1 : Int) (x2 : Int) (x3 : Int) (x4 : Int) (x5 : Int) (x6 : Int) (x7 : Int) (x8 : Int) (h : Hp) (res : Int × Hp), k153 x1 x2 x3 x4 x5 x6 x7 x8 h = some res → Go M_X12_load 2 153 [some (.inr 84), some (.inl x1), some (.inl x2), some (.inl x3), some (.inl x4), some (.inl x5), some (.inl x6), some (.inl x7), some (.inl x8), none] [] h (Qi res)) : ∀ (n : Nat) (x1 : Int) (x2 : Int) (x3 : Int) (x4 : Int) (x5 : Int) (x6 : Int) (x7 : Int) (x8 : Int) (x9 : Int) (h : Hp) (res : Int × Hp), L_X12_load_75 N k153 n x1 x2 x3 x4 x5 x6 x7 x8 x9 h = some res → Go M_X12_load 2 75 [some (.inr 84), some (.inl x1), some (.inl x2), some (.inl x3), some (.inl x4), some (.inl x5), some (.inl x6), some (.inl x7), some (.inl x8), some (.inl x9)] [] h (Qi res)
  | 0, _, _, _, _, _, _, _, _, _, _, _, H => by cases H
  | n + 1, x1, x2, x3, x4, x5, x6, x7, x8, x9, h, res, H => by
    have ih := R_L_X12_load_75 N k153 hk153 n
    simp only [L_X12_load_75] at H
    refine g_iload (T_X12_load 43 _ _ _ rfl) rfl ?_
    refine g_iload_n (T_X12_load 44 _ _ _ rfl) rfl ?_
    refine g_icmp_ge (tgt := 153) (T_X12_load 45 _ _ _ rfl) (by decide) (fun cc => ?_) (fun cc => ?_)
    · replace H := ite_p cc H
      refine g_weak [true, true, true, true, true, true, true, true, true, false] ?_
      exact hk153 _ _ _ _ _ _ _ _ _ _ H
    · replace H := ite_n cc H
      refine g_iload (T_X12_load 46 _ _ _ rfl) rfl ?_
      refine g_iload (T_X12_load 47 _ _ _ rfl) rfl ?_
      refine g_iload (T_X12_load 48 _ _ _ rfl) rfl ?_
      obtain ⟨y2, h1, hq, H⟩ := bd_some H
      refine g_callSi (M' := M_X12_has) (av := [.inl x6, .inl x9]) (st := [.inl x7]) (T_X12_load 49 _ _ _ rfl) ml_X12_139 cb_X12_has rfl (Nat.le_of_ble_eq_true rfl) (by omega) (R_X12_has N _ _ _ _ hq) ?_
      refine g_if_eq (tgt := 109) (T_X12_load 50 _ _ _ rfl) (by decide) (fun cc => ?_) (fun cc => ?_)
      · replace H := ite_p cc H
        refine g_iconst (T_X12_load 60 _ _ _ rfl) ⟨by decide, by decide⟩ ?_
        refine g_weak [true, true, true, true, true, true, true, false, true, true] ?_
        exact R_J_X12_load_110 N (L_X12_load_75 N k153 n) ih _ _ _ _ _ _ _ _ _ _ _ _ H
      · replace H := ite_n cc H
        refine g_aload_n (T_X12_load 51 _ _ _ rfl) rfl ?_
        refine g_getR (c := 83) (r := 97) (T_X12_load 52 _ _ _ rfl) fl_X12_46 rfl (nR rfl) rfl (by decide) ?_
        refine g_iconst (T_X12_load 53 _ _ _ rfl) ⟨by decide, by decide⟩ ?_
        refine g_iload (T_X12_load 54 _ _ _ rfl) rfl ?_
        refine g_imul (T_X12_load 55 _ _ _ rfl) ?_
        obtain ⟨hg, H⟩ := grd_some H
        refine g_bald (c := 96) (T_X12_load 56 _ _ _ rfl) rfl hg ?_
        refine g_sipush (T_X12_load 57 _ _ _ rfl) (by decide) ?_
        refine g_iand (T_X12_load 58 _ _ _ rfl) ?_
        refine g_goto (tgt := 110) (T_X12_load 59 _ _ _ rfl) (by decide) ?_
        refine g_weak [true, true, true, true, true, true, true, false, true, true] ?_
        exact R_J_X12_load_110 N (L_X12_load_75 N k153 n) ih _ _ _ _ _ _ _ _ _ _ _ _ H
def J_X12_load_177 (N : Nat) (k58 : Int → Int → Int → Int → Int → Int → Hp → Option (Int × Hp)) (x1 : Int) (x2 : Int) (x3 : Int) (x4 : Int) (x5 : Int) (x6 : Int) (h : Hp) : Option (Int × Hp) :=
  bnd (w32 (x6 + 1)) fun y1 =>
  k58 x1 x2 x3 x4 x5 y1 h
set_option maxRecDepth 100000 in
set_option maxHeartbeats 4000000 in
theorem R_J_X12_load_177 (N : Nat) (k58 : Int → Int → Int → Int → Int → Int → Hp → Option (Int × Hp)) (hk58 : ∀ (x1 : Int) (x2 : Int) (x3 : Int) (x4 : Int) (x5 : Int) (x6 : Int) (h : Hp) (res : Int × Hp), k58 x1 x2 x3 x4 x5 x6 h = some res → Go M_X12_load 2 58 [some (.inr 84), some (.inl x1), some (.inl x2), some (.inl x3), some (.inl x4), some (.inl x5), some (.inl x6), none, none, none] [] h (Qi res)) (x1 : Int) (x2 : Int) (x3 : Int) (x4 : Int) (x5 : Int) (x6 : Int) (h : Hp) (res : Int × Hp) (H : J_X12_load_177 N k58 x1 x2 x3 x4 x5 x6 h = some res) : Go M_X12_load 2 177 [some (.inr 84), some (.inl x1), some (.inl x2), some (.inl x3), some (.inl x4), some (.inl x5), some (.inl x6), none, none, none] [] h (Qi res) := by
  unfold J_X12_load_177 at H
  refine g_iincB (T_X12_load 95 _ _ _ rfl) rfl (by decide) H fun y1 H => ?_
  refine g_goto (tgt := 58) (T_X12_load 96 _ _ _ rfl) (by decide) ?_
  refine g_weak [true, true, true, true, true, true, true, false, false, false] ?_
  exact hk58 _ _ _ _ _ _ _ _ H
def L_X12_load_58 (N : Nat) : Nat → Int → Int → Int → Int → Int → Int → Hp → Option (Int × Hp)
  | 0, _, _, _, _, _, _, _ => none
  | n + 1, x1, x2, x3, x4, x5, x6, h =>
    if (ishl 1 x1) ≤ x6 then
      if x3 = 0 then
        some (x5, h)
      else
      some (x4, h)
    else
    L_X12_load_75 N (fun (v1 : Int) (v2 : Int) (v3 : Int) (v4 : Int) (v5 : Int) (v6 : Int) (v7 : Int) (v8 : Int) (h9 : Hp) =>
      if v7 = v2 then
        if v5 < v8 then
          J_X12_load_177 N (L_X12_load_58 N n) v1 v2 v3 v6 v8 v6 h9
        else
        J_X12_load_177 N (L_X12_load_58 N n) v1 v2 v3 v4 v5 v6 h9
      else
      J_X12_load_177 N (L_X12_load_58 N n) v1 v2 v3 v4 v5 v6 h9) N x1 x2 x3 x4 x5 x6 0 0 0 h
set_option maxRecDepth 100000 in
set_option maxHeartbeats 4000000 in
theorem R_L_X12_load_58 (N : Nat) : ∀ (n : Nat) (x1 : Int) (x2 : Int) (x3 : Int) (x4 : Int) (x5 : Int) (x6 : Int) (h : Hp) (res : Int × Hp), L_X12_load_58 N n x1 x2 x3 x4 x5 x6 h = some res → Go M_X12_load 2 58 [some (.inr 84), some (.inl x1), some (.inl x2), some (.inl x3), some (.inl x4), some (.inl x5), some (.inl x6), none, none, none] [] h (Qi res)
  | 0, _, _, _, _, _, _, _, _, H => by cases H
  | n + 1, x1, x2, x3, x4, x5, x6, h, res, H => by
    have ih := R_L_X12_load_58 N n
    simp only [L_X12_load_58] at H
    refine g_iload (T_X12_load 32 _ _ _ rfl) rfl ?_
    refine g_iconst (T_X12_load 33 _ _ _ rfl) ⟨by decide, by decide⟩ ?_
    refine g_iload_n (T_X12_load 34 _ _ _ rfl) rfl ?_
    refine g_ishl (T_X12_load 35 _ _ _ rfl) ?_
    refine g_icmp_ge (tgt := 183) (T_X12_load 36 _ _ _ rfl) (by decide) (fun cc => ?_) (fun cc => ?_)
    · replace H := ite_p cc H
      refine g_iload_n (T_X12_load 97 _ _ _ rfl) rfl ?_
      refine g_if_ne (tgt := 192) (T_X12_load 98 _ _ _ rfl) (by decide) (fun cc => ?_) (fun cc => ?_)
      · replace H := ite_n cc H
        refine g_iload (T_X12_load 101 _ _ _ rfl) rfl ?_
        exact g_iret (T_X12_load 102 _ _ _ rfl) rfl (qi_of H)
      · replace H := ite_p cc H
        refine g_iload (T_X12_load 99 _ _ _ rfl) rfl ?_
        refine g_goto (tgt := 194) (T_X12_load 100 _ _ _ rfl) (by decide) ?_
        exact g_iret (T_X12_load 102 _ _ _ rfl) rfl (qi_of H)
    · replace H := ite_n cc H
      refine g_iconst (T_X12_load 37 _ _ _ rfl) ⟨by decide, by decide⟩ ?_
      refine g_istore (T_X12_load 38 _ _ _ rfl) (by decide) ?_
      refine g_iconst (T_X12_load 39 _ _ _ rfl) ⟨by decide, by decide⟩ ?_
      refine g_istore (T_X12_load 40 _ _ _ rfl) (by decide) ?_
      refine g_iconst (T_X12_load 41 _ _ _ rfl) ⟨by decide, by decide⟩ ?_
      refine g_istore (T_X12_load 42 _ _ _ rfl) (by decide) ?_
      refine g_weak [true, true, true, true, true, true, true, true, true, true] ?_
      refine R_L_X12_load_75 N _ (fun v1 v2 v3 v4 v5 v6 v7 v8 h9 res H => ?_) _ _ _ _ _ _ _ _ _ _ _ _ H
      · refine g_iload (T_X12_load 84 _ _ _ rfl) rfl ?_
        refine g_iload_n (T_X12_load 85 _ _ _ rfl) rfl ?_
        refine g_icmp_ne (tgt := 177) (T_X12_load 86 _ _ _ rfl) (by decide) (fun cc => ?_) (fun cc => ?_)
        · replace H := ite_n cc H
          refine g_weak [true, true, true, true, true, true, true, false, false, false] ?_
          exact R_J_X12_load_177 N (L_X12_load_58 N n) ih _ _ _ _ _ _ _ _ H
        · replace H := ite_p cc H
          refine g_iload (T_X12_load 87 _ _ _ rfl) rfl ?_
          refine g_iload (T_X12_load 88 _ _ _ rfl) rfl ?_
          refine g_icmp_gt (tgt := 169) (T_X12_load 89 _ _ _ rfl) (by decide) (fun cc => ?_) (fun cc => ?_)
          · replace H := ite_p cc H
            refine g_iload (T_X12_load 91 _ _ _ rfl) rfl ?_
            refine g_istore (T_X12_load 92 _ _ _ rfl) (by decide) ?_
            refine g_iload (T_X12_load 93 _ _ _ rfl) rfl ?_
            refine g_istore (T_X12_load 94 _ _ _ rfl) (by decide) ?_
            refine g_weak [true, true, true, true, true, true, true, false, false, false] ?_
            exact R_J_X12_load_177 N (L_X12_load_58 N n) ih _ _ _ _ _ _ _ _ H
          · replace H := ite_n cc H
            refine g_goto (tgt := 177) (T_X12_load 90 _ _ _ rfl) (by decide) ?_
            refine g_weak [true, true, true, true, true, true, true, false, false, false] ?_
            exact R_J_X12_load_177 N (L_X12_load_58 N n) ih _ _ _ _ _ _ _ _ H
def F_X12_load (N : Nat) (x1 : Int) (x2 : Int) (x3 : Int) (h : Hp) : Option (Int × Hp) :=
  bd (F_X12_in N x1 1 8 h) fun y2 h1 =>
  if y2 = 0 then
    some ((-1), h1)
  else
  bd (F_X12_in N x2 0 999 h1) fun y4 h3 =>
  if y4 = 0 then
    some ((-1), h3)
  else
  bd (F_X12_in N x3 0 1 h3) fun y6 h5 =>
  if y6 = 0 then
    some ((-1), h5)
  else
  if (w32 (2 * x1)) ≤ (h5 83 15) then
    bnd (hw h5 83 15 0) fun h7 =>
    L_X12_load_58 N  N x1 x2 x3 (-2) (-2) 0 h7
  else
  some ((-1), h5)
set_option maxRecDepth 100000 in
set_option maxHeartbeats 4000000 in
theorem R_X12_load (N : Nat) (x1 : Int) (x2 : Int) (x3 : Int) (h : Hp) (res : Int × Hp) (H : F_X12_load N x1 x2 x3 h = some res) : Runs M_X12_load 2 [.inr 84, .inl x1, .inl x2, .inl x3] h (Qi res) := by
  refine Runs.of rfl (Nat.le_of_ble_eq_true rfl) ?_
  show Go M_X12_load 2 0 [some (.inr 84), some (.inl x1), some (.inl x2), some (.inl x3), none, none, none, none, none, none] [] h (Qi res)
  unfold F_X12_load at H
  refine g_iload_n (T_X12_load 0 _ _ _ rfl) rfl ?_
  refine g_iconst (T_X12_load 1 _ _ _ rfl) ⟨by decide, by decide⟩ ?_
  refine g_bipush (T_X12_load 2 _ _ _ rfl) (by decide) ?_
  obtain ⟨y2, h1, hq, H⟩ := bd_some H
  refine g_callSi (M' := M_X12_in) (av := [.inl x1, .inl 1, .inl 8]) (st := []) (T_X12_load 3 _ _ _ rfl) ml_X12_155 cb_X12_in rfl (Nat.le_of_ble_eq_true rfl) (by omega) (R_X12_in N _ _ _ _ _ hq) ?_
  refine g_if_eq (tgt := 40) (T_X12_load 4 _ _ _ rfl) (by decide) (fun cc => ?_) (fun cc => ?_)
  · replace H := ite_p cc H
    refine g_iconst (T_X12_load 21 _ _ _ rfl) ⟨by decide, by decide⟩ ?_
    exact g_iret (T_X12_load 22 _ _ _ rfl) rfl (qi_of H)
  · replace H := ite_n cc H
    refine g_iload_n (T_X12_load 5 _ _ _ rfl) rfl ?_
    refine g_iconst (T_X12_load 6 _ _ _ rfl) ⟨by decide, by decide⟩ ?_
    refine g_sipush (T_X12_load 7 _ _ _ rfl) (by decide) ?_
    obtain ⟨y4, h3, hq, H⟩ := bd_some H
    refine g_callSi (M' := M_X12_in) (av := [.inl x2, .inl 0, .inl 999]) (st := []) (T_X12_load 8 _ _ _ rfl) ml_X12_155 cb_X12_in rfl (Nat.le_of_ble_eq_true rfl) (by omega) (R_X12_in N _ _ _ _ _ hq) ?_
    refine g_if_eq (tgt := 40) (T_X12_load 9 _ _ _ rfl) (by decide) (fun cc => ?_) (fun cc => ?_)
    · replace H := ite_p cc H
      refine g_iconst (T_X12_load 21 _ _ _ rfl) ⟨by decide, by decide⟩ ?_
      exact g_iret (T_X12_load 22 _ _ _ rfl) rfl (qi_of H)
    · replace H := ite_n cc H
      refine g_iload_n (T_X12_load 10 _ _ _ rfl) rfl ?_
      refine g_iconst (T_X12_load 11 _ _ _ rfl) ⟨by decide, by decide⟩ ?_
      refine g_iconst (T_X12_load 12 _ _ _ rfl) ⟨by decide, by decide⟩ ?_
      obtain ⟨y6, h5, hq, H⟩ := bd_some H
      refine g_callSi (M' := M_X12_in) (av := [.inl x3, .inl 0, .inl 1]) (st := []) (T_X12_load 13 _ _ _ rfl) ml_X12_155 cb_X12_in rfl (Nat.le_of_ble_eq_true rfl) (by omega) (R_X12_in N _ _ _ _ _ hq) ?_
      refine g_if_eq (tgt := 40) (T_X12_load 14 _ _ _ rfl) (by decide) (fun cc => ?_) (fun cc => ?_)
      · replace H := ite_p cc H
        refine g_iconst (T_X12_load 21 _ _ _ rfl) ⟨by decide, by decide⟩ ?_
        exact g_iret (T_X12_load 22 _ _ _ rfl) rfl (qi_of H)
      · replace H := ite_n cc H
        refine g_iconst (T_X12_load 15 _ _ _ rfl) ⟨by decide, by decide⟩ ?_
        refine g_iload_n (T_X12_load 16 _ _ _ rfl) rfl ?_
        refine g_imul (T_X12_load 17 _ _ _ rfl) ?_
        refine g_aload_n (T_X12_load 18 _ _ _ rfl) rfl ?_
        refine g_getI (c := 83) (T_X12_load 19 _ _ _ rfl) fl_X12_159 rfl (Or.inl rfl) ?_
        refine g_icmp_le (tgt := 42) (T_X12_load 20 _ _ _ rfl) (by decide) (fun cc => ?_) (fun cc => ?_)
        · replace H := ite_p cc H
          refine g_aload_n (T_X12_load 23 _ _ _ rfl) rfl ?_
          refine g_iconst (T_X12_load 24 _ _ _ rfl) ⟨by decide, by decide⟩ ?_
          refine g_put (c := 83) (T_X12_load 25 _ _ _ rfl) fl_X12_159 rfl (Or.inl rfl) ?_
          refine g_bndH H fun h7 H => ?_
          refine g_bipush (T_X12_load 26 _ _ _ rfl) (by decide) ?_
          refine g_istore (T_X12_load 27 _ _ _ rfl) (by decide) ?_
          refine g_bipush (T_X12_load 28 _ _ _ rfl) (by decide) ?_
          refine g_istore (T_X12_load 29 _ _ _ rfl) (by decide) ?_
          refine g_iconst (T_X12_load 30 _ _ _ rfl) ⟨by decide, by decide⟩ ?_
          refine g_istore (T_X12_load 31 _ _ _ rfl) (by decide) ?_
          refine g_weak [true, true, true, true, true, true, true, false, false, false] ?_
          refine R_L_X12_load_58 N   _ _ _ _ _ _ _ _ _ H
        · replace H := ite_n cc H
          refine g_iconst (T_X12_load 21 _ _ _ rfl) ⟨by decide, by decide⟩ ?_
          exact g_iret (T_X12_load 22 _ _ _ rfl) rfl (qi_of H)
def L_X12_missingBy_4 (N : Nat) : Nat → Int → Int → Int → Hp → Option (Int × Hp)
  | 0, _, _, _, _ => none
  | n + 1, x1, x2, x3, h =>
    if x1 ≤ x3 then
      some (x2, h)
    else
    grd (0 ≤ x3 ∧ x3 < 260) <|
    grd (0 ≤ x3 ∧ x3 < 8) <|
    grd (0 ≤ (w32 (x1 + (h 119 x3.toNat))) ∧ (w32 (x1 + (h 119 x3.toNat))) < 260) <|
    grd (0 ≤ (h 96 (w32 (x1 + (h 119 x3.toNat))).toNat) ∧ (h 96 (w32 (x1 + (h 119 x3.toNat))).toNat) < 14) <|
    bd (F_X12_max N 0 (w32 ((iand (h 96 x3.toNat) 255) - (h 89 (h 96 (w32 (x1 + (h 119 x3.toNat))).toNat).toNat))) h) fun y2 h1 =>
    bnd ((w32 (x2 + y2))) fun y3 =>
    bnd (w32 (x3 + 1)) fun y4 =>
    (L_X12_missingBy_4 N n) x1 y3 y4 h1
set_option maxRecDepth 100000 in
set_option maxHeartbeats 4000000 in
theorem R_L_X12_missingBy_4 (N : Nat) : ∀ (n : Nat) (x1 : Int) (x2 : Int) (x3 : Int) (h : Hp) (res : Int × Hp), L_X12_missingBy_4 N n x1 x2 x3 h = some res → Go M_X12_missingBy 2 4 [some (.inr 84), some (.inl x1), some (.inl x2), some (.inl x3)] [] h (Qi res)
  | 0, _, _, _, _, _, H => by cases H
  | n + 1, x1, x2, x3, h, res, H => by
    have ih := R_L_X12_missingBy_4 N n
    simp only [L_X12_missingBy_4] at H
    refine g_iload_n (T_X12_missingBy 4 _ _ _ rfl) rfl ?_
    refine g_iload_n (T_X12_missingBy 5 _ _ _ rfl) rfl ?_
    refine g_icmp_ge (tgt := 51) (T_X12_missingBy 6 _ _ _ rfl) (by decide) (fun cc => ?_) (fun cc => ?_)
    · replace H := ite_p cc H
      refine g_iload_n (T_X12_missingBy 33 _ _ _ rfl) rfl ?_
      exact g_iret (T_X12_missingBy 34 _ _ _ rfl) rfl (qi_of H)
    · replace H := ite_n cc H
      refine g_iload_n (T_X12_missingBy 7 _ _ _ rfl) rfl ?_
      refine g_iconst (T_X12_missingBy 8 _ _ _ rfl) ⟨by decide, by decide⟩ ?_
      refine g_aload_n (T_X12_missingBy 9 _ _ _ rfl) rfl ?_
      refine g_getR (c := 83) (r := 97) (T_X12_missingBy 10 _ _ _ rfl) fl_X12_46 rfl (nR rfl) rfl (by decide) ?_
      refine g_iload_n (T_X12_missingBy 11 _ _ _ rfl) rfl ?_
      obtain ⟨hg, H⟩ := grd_some H
      refine g_bald (c := 96) (T_X12_missingBy 12 _ _ _ rfl) rfl hg ?_
      refine g_sipush (T_X12_missingBy 13 _ _ _ rfl) (by decide) ?_
      refine g_iand (T_X12_missingBy 14 _ _ _ rfl) ?_
      refine g_aload_n (T_X12_missingBy 15 _ _ _ rfl) rfl ?_
      refine g_getR (c := 83) (r := 90) (T_X12_missingBy 16 _ _ _ rfl) fl_X12_25 rfl (nR rfl) rfl (by decide) ?_
      refine g_aload_n (T_X12_missingBy 17 _ _ _ rfl) rfl ?_
      refine g_getR (c := 83) (r := 97) (T_X12_missingBy 18 _ _ _ rfl) fl_X12_46 rfl (nR rfl) rfl (by decide) ?_
      refine g_iload_n (T_X12_missingBy 19 _ _ _ rfl) rfl ?_
      refine g_aload_n (T_X12_missingBy 20 _ _ _ rfl) rfl ?_
      refine g_getR (c := 83) (r := 120) (T_X12_missingBy 21 _ _ _ rfl) fl_X12_116 rfl (nR rfl) rfl (by decide) ?_
      refine g_iload_n (T_X12_missingBy 22 _ _ _ rfl) rfl ?_
      obtain ⟨hg, H⟩ := grd_some H
      refine g_iald (c := 119) (T_X12_missingBy 23 _ _ _ rfl) rfl hg ?_
      refine g_iadd (T_X12_missingBy 24 _ _ _ rfl) ?_
      obtain ⟨hg, H⟩ := grd_some H
      refine g_bald (c := 96) (T_X12_missingBy 25 _ _ _ rfl) rfl hg ?_
      obtain ⟨hg, H⟩ := grd_some H
      refine g_iald (c := 89) (T_X12_missingBy 26 _ _ _ rfl) rfl hg ?_
      refine g_isub (T_X12_missingBy 27 _ _ _ rfl) ?_
      obtain ⟨y2, h1, hq, H⟩ := bd_some H
      refine g_callSi (M' := M_X12_max) (av := [.inl 0, .inl (w32 ((iand (h 96 x3.toNat) 255) - (h 89 (h 96 (w32 (x1 + (h 119 x3.toNat))).toNat).toNat)))]) (st := [.inl x2]) (T_X12_missingBy 28 _ _ _ rfl) ml_X12_363 cb_X12_max rfl (Nat.le_of_ble_eq_true rfl) (by omega) (R_X12_max N _ _ _ _ hq) ?_
      refine g_iadd (T_X12_missingBy 29 _ _ _ rfl) ?_
      refine g_bndI H fun y3 H => ?_
      refine g_istore_n (T_X12_missingBy 30 _ _ _ rfl) (by decide) ?_
      refine g_iincB (T_X12_missingBy 31 _ _ _ rfl) rfl (by decide) H fun y4 H => ?_
      refine g_goto (tgt := 4) (T_X12_missingBy 32 _ _ _ rfl) (by decide) ?_
      refine g_weak [true, true, true, true] ?_
      exact ih _ _ _ _ _ H
def F_X12_missingBy (N : Nat) (x1 : Int) (h : Hp) : Option (Int × Hp) :=
  L_X12_missingBy_4 N  N x1 0 0 h
set_option maxRecDepth 100000 in
set_option maxHeartbeats 4000000 in
theorem R_X12_missingBy (N : Nat) (x1 : Int) (h : Hp) (res : Int × Hp) (H : F_X12_missingBy N x1 h = some res) : Runs M_X12_missingBy 2 [.inr 84, .inl x1] h (Qi res) := by
  refine Runs.of rfl (Nat.le_of_ble_eq_true rfl) ?_
  show Go M_X12_missingBy 2 0 [some (.inr 84), some (.inl x1), none, none] [] h (Qi res)
  unfold F_X12_missingBy at H
  refine g_iconst (T_X12_missingBy 0 _ _ _ rfl) ⟨by decide, by decide⟩ ?_
  refine g_istore_n (T_X12_missingBy 1 _ _ _ rfl) (by decide) ?_
  refine g_iconst (T_X12_missingBy 2 _ _ _ rfl) ⟨by decide, by decide⟩ ?_
  refine g_istore_n (T_X12_missingBy 3 _ _ _ rfl) (by decide) ?_
  refine g_weak [true, true, true, true] ?_
  refine R_L_X12_missingBy_4 N   _ _ _ _ _ _ H
def J_X12_brides_167 (N : Nat) (k123 : Int → Int → Int → Int → Int → Hp → Option (Int × Hp)) (x1 : Int) (x2 : Int) (x4 : Int) (x5 : Int) (x6 : Int) (h : Hp) : Option (Int × Hp) :=
  bnd (w32 (x6 + 1)) fun y1 =>
  k123 x1 x2 x4 x5 y1 h
set_option maxRecDepth 100000 in
set_option maxHeartbeats 4000000 in
theorem R_J_X12_brides_167 (N : Nat) (k123 : Int → Int → Int → Int → Int → Hp → Option (Int × Hp)) (hk123 : ∀ (x1 : Int) (x2 : Int) (x4 : Int) (x5 : Int) (x6 : Int) (h : Hp) (res : Int × Hp), k123 x1 x2 x4 x5 x6 h = some res → Go M_X12_brides 3 123 [some (.inr 84), some (.inl x1), some (.inl x2), none, some (.inl x4), some (.inl x5), some (.inl x6)] [] h (Qi res)) (x1 : Int) (x2 : Int) (x4 : Int) (x5 : Int) (x6 : Int) (h : Hp) (res : Int × Hp) (H : J_X12_brides_167 N k123 x1 x2 x4 x5 x6 h = some res) : Go M_X12_brides 3 167 [some (.inr 84), some (.inl x1), some (.inl x2), none, some (.inl x4), some (.inl x5), some (.inl x6)] [] h (Qi res) := by
  unfold J_X12_brides_167 at H
  refine g_iincB (T_X12_brides 96 _ _ _ rfl) rfl (by decide) H fun y1 H => ?_
  refine g_goto (tgt := 123) (T_X12_brides 97 _ _ _ rfl) (by decide) ?_
  refine g_weak [true, true, true, false, true, true, true] ?_
  exact hk123 _ _ _ _ _ _ _ H
def L_X12_brides_123 (N : Nat) : Nat → Int → Int → Int → Int → Int → Hp → Option (Int × Hp)
  | 0, _, _, _, _, _, _ => none
  | n + 1, x1, x2, x4, x5, x6, h =>
    bd (F_X12_codesFor N x1 x1 h) fun y2 h1 =>
    if y2 ≤ x6 then
      if x2 = 10 then
        some (x5, h1)
      else
      bd (F_X12_readsRow N x4 x1 h1) fun y4 h3 =>
      grd (0 ≤ x2 ∧ x2 < 8) <|
      grd (0 ≤ (w32 (x1 + (h3 119 x2.toNat))) ∧ (w32 (x1 + (h3 119 x2.toNat))) < 260) <|
      some ((h3 96 (w32 (x1 + (h3 119 x2.toNat))).toNat), h3)
    else
    bd (F_X12_readsRow N x6 x1 h1) fun y6 h5 =>
    if y6 = 0 then
      J_X12_brides_167 N (L_X12_brides_123 N n) x1 x2 x4 x5 x6 h5
    else
    bd (F_X12_missingBy N x1 h5) fun y8 h7 =>
    if y8 < x5 then
      bd (F_X12_missingBy N x1 h7) fun y10 h9 =>
      J_X12_brides_167 N (L_X12_brides_123 N n) x1 x2 x6 y10 x6 h9
    else
    J_X12_brides_167 N (L_X12_brides_123 N n) x1 x2 x4 x5 x6 h7
set_option maxRecDepth 100000 in
set_option maxHeartbeats 4000000 in
theorem R_L_X12_brides_123 (N : Nat) : ∀ (n : Nat) (x1 : Int) (x2 : Int) (x4 : Int) (x5 : Int) (x6 : Int) (h : Hp) (res : Int × Hp), L_X12_brides_123 N n x1 x2 x4 x5 x6 h = some res → Go M_X12_brides 3 123 [some (.inr 84), some (.inl x1), some (.inl x2), none, some (.inl x4), some (.inl x5), some (.inl x6)] [] h (Qi res)
  | 0, _, _, _, _, _, _, _, H => by cases H
  | n + 1, x1, x2, x4, x5, x6, h, res, H => by
    have ih := R_L_X12_brides_123 N n
    simp only [L_X12_brides_123] at H
    refine g_iload (T_X12_brides 74 _ _ _ rfl) rfl ?_
    refine g_iload_n (T_X12_brides 75 _ _ _ rfl) rfl ?_
    refine g_iload_n (T_X12_brides 76 _ _ _ rfl) rfl ?_
    obtain ⟨y2, h1, hq, H⟩ := bd_some H
    refine g_callSi (M' := M_X12_codesFor) (av := [.inl x1, .inl x1]) (st := [.inl x6]) (T_X12_brides 77 _ _ _ rfl) ml_X12_354 cb_X12_codesFor rfl (Nat.le_of_ble_eq_true rfl) (by omega) (R_X12_codesFor N _ _ _ _ hq) ?_
    refine g_icmp_ge (tgt := 173) (T_X12_brides 78 _ _ _ rfl) (by decide) (fun cc => ?_) (fun cc => ?_)
    · replace H := ite_p cc H
      refine g_iload_n (T_X12_brides 98 _ _ _ rfl) rfl ?_
      refine g_bipush (T_X12_brides 99 _ _ _ rfl) (by decide) ?_
      refine g_icmp_ne (tgt := 182) (T_X12_brides 100 _ _ _ rfl) (by decide) (fun cc => ?_) (fun cc => ?_)
      · replace H := ite_n cc H
        refine g_aload_n (T_X12_brides 103 _ _ _ rfl) rfl ?_
        refine g_iload (T_X12_brides 104 _ _ _ rfl) rfl ?_
        refine g_iload_n (T_X12_brides 105 _ _ _ rfl) rfl ?_
        obtain ⟨y4, h3, hq, H⟩ := bd_some H
        refine g_callVi (M' := M_X12_readsRow) (c := 83) (av := [.inl x4, .inl x1]) (st := []) (T_X12_brides 106 _ _ _ rfl) ml_X12_357 cb_X12_readsRow rfl rfl (Nat.le_of_ble_eq_true rfl) (by omega) (R_X12_readsRow N _ _ _ _ hq) ?_
        refine g_pop (T_X12_brides 107 _ _ _ rfl) ?_
        refine g_aload_n (T_X12_brides 108 _ _ _ rfl) rfl ?_
        refine g_getR (c := 83) (r := 97) (T_X12_brides 109 _ _ _ rfl) fl_X12_46 rfl (nR rfl) rfl (by decide) ?_
        refine g_iload_n (T_X12_brides 110 _ _ _ rfl) rfl ?_
        refine g_aload_n (T_X12_brides 111 _ _ _ rfl) rfl ?_
        refine g_getR (c := 83) (r := 120) (T_X12_brides 112 _ _ _ rfl) fl_X12_116 rfl (nR rfl) rfl (by decide) ?_
        refine g_iload_n (T_X12_brides 113 _ _ _ rfl) rfl ?_
        obtain ⟨hg, H⟩ := grd_some H
        refine g_iald (c := 119) (T_X12_brides 114 _ _ _ rfl) rfl hg ?_
        refine g_iadd (T_X12_brides 115 _ _ _ rfl) ?_
        obtain ⟨hg, H⟩ := grd_some H
        refine g_bald (c := 96) (T_X12_brides 116 _ _ _ rfl) rfl hg ?_
        exact g_iret (T_X12_brides 117 _ _ _ rfl) rfl (qi_of H)
      · replace H := ite_p cc H
        refine g_iload (T_X12_brides 101 _ _ _ rfl) rfl ?_
        exact g_iret (T_X12_brides 102 _ _ _ rfl) rfl (qi_of H)
    · replace H := ite_n cc H
      refine g_aload_n (T_X12_brides 79 _ _ _ rfl) rfl ?_
      refine g_iload (T_X12_brides 80 _ _ _ rfl) rfl ?_
      refine g_iload_n (T_X12_brides 81 _ _ _ rfl) rfl ?_
      obtain ⟨y6, h5, hq, H⟩ := bd_some H
      refine g_callVi (M' := M_X12_readsRow) (c := 83) (av := [.inl x6, .inl x1]) (st := []) (T_X12_brides 82 _ _ _ rfl) ml_X12_357 cb_X12_readsRow rfl rfl (Nat.le_of_ble_eq_true rfl) (by omega) (R_X12_readsRow N _ _ _ _ hq) ?_
      refine g_if_eq (tgt := 167) (T_X12_brides 83 _ _ _ rfl) (by decide) (fun cc => ?_) (fun cc => ?_)
      · replace H := ite_p cc H
        refine g_weak [true, true, true, false, true, true, true] ?_
        exact R_J_X12_brides_167 N (L_X12_brides_123 N n) ih _ _ _ _ _ _ _ H
      · replace H := ite_n cc H
        refine g_aload_n (T_X12_brides 84 _ _ _ rfl) rfl ?_
        refine g_iload_n (T_X12_brides 85 _ _ _ rfl) rfl ?_
        obtain ⟨y8, h7, hq, H⟩ := bd_some H
        refine g_callVi (M' := M_X12_missingBy) (c := 83) (av := [.inl x1]) (st := []) (T_X12_brides 86 _ _ _ rfl) ml_X12_382 cb_X12_missingBy rfl rfl (Nat.le_of_ble_eq_true rfl) (by omega) (R_X12_missingBy N _ _ _ hq) ?_
        refine g_iload (T_X12_brides 87 _ _ _ rfl) rfl ?_
        refine g_icmp_lt (tgt := 156) (T_X12_brides 88 _ _ _ rfl) (by decide) (fun cc => ?_) (fun cc => ?_)
        · replace H := ite_p cc H
          refine g_aload_n (T_X12_brides 90 _ _ _ rfl) rfl ?_
          refine g_iload_n (T_X12_brides 91 _ _ _ rfl) rfl ?_
          obtain ⟨y10, h9, hq, H⟩ := bd_some H
          refine g_callVi (M' := M_X12_missingBy) (c := 83) (av := [.inl x1]) (st := []) (T_X12_brides 92 _ _ _ rfl) ml_X12_382 cb_X12_missingBy rfl rfl (Nat.le_of_ble_eq_true rfl) (by omega) (R_X12_missingBy N _ _ _ hq) ?_
          refine g_istore (T_X12_brides 93 _ _ _ rfl) (by decide) ?_
          refine g_iload (T_X12_brides 94 _ _ _ rfl) rfl ?_
          refine g_istore (T_X12_brides 95 _ _ _ rfl) (by decide) ?_
          refine g_weak [true, true, true, false, true, true, true] ?_
          exact R_J_X12_brides_167 N (L_X12_brides_123 N n) ih _ _ _ _ _ _ _ H
        · replace H := ite_n cc H
          refine g_goto (tgt := 167) (T_X12_brides 89 _ _ _ rfl) (by decide) ?_
          refine g_weak [true, true, true, false, true, true, true] ?_
          exact R_J_X12_brides_167 N (L_X12_brides_123 N n) ih _ _ _ _ _ _ _ H
def J_X12_brides_113 (N : Nat) (x1 : Int) (x2 : Int) (h : Hp) : Option (Int × Hp) :=
  L_X12_brides_123 N  N x1 x2 (-1) 1000000 0 h
set_option maxRecDepth 100000 in
set_option maxHeartbeats 4000000 in
theorem R_J_X12_brides_113 (N : Nat) (x1 : Int) (x2 : Int) (h : Hp) (res : Int × Hp) (H : J_X12_brides_113 N x1 x2 h = some res) : Go M_X12_brides 3 113 [some (.inr 84), some (.inl x1), some (.inl x2), none, none, none, none] [] h (Qi res) := by
  unfold J_X12_brides_113 at H
  refine g_iconst (T_X12_brides 68 _ _ _ rfl) ⟨by decide, by decide⟩ ?_
  refine g_istore (T_X12_brides 69 _ _ _ rfl) (by decide) ?_
  refine g_ldc (T_X12_brides 70 _ _ _ rfl) kc_X12_150 ⟨by decide, by decide⟩ ?_
  refine g_istore (T_X12_brides 71 _ _ _ rfl) (by decide) ?_
  refine g_iconst (T_X12_brides 72 _ _ _ rfl) ⟨by decide, by decide⟩ ?_
  refine g_istore (T_X12_brides 73 _ _ _ rfl) (by decide) ?_
  refine g_weak [true, true, true, false, true, true, true] ?_
  refine R_L_X12_brides_123 N   _ _ _ _ _ _ _ _ H
def L_X12_brides_32 (N : Nat) : Nat → Int → Int → Int → Int → Hp → Option (Int × Hp)
  | 0, _, _, _, _, _ => none
  | n + 1, x1, x2, x3, x4, h =>
    if x1 ≤ x4 then
      if x2 = 10 then
        J_X12_brides_113 N  x1 x2 h
      else
      bd (F_X12_in N x2 0 (w32 (x1 - 1)) h) fun y2 h1 =>
      if y2 = 0 then
        some ((-4), h1)
      else
      J_X12_brides_113 N  x1 x2 h1
    else
    grd (0 ≤ (w32 (x1 + x4)) ∧ (w32 (x1 + x4)) < 260) <|
    bd (F_X12_isStreet N (h 96 (w32 (x1 + x4)).toNat) h) fun y4 h3 =>
    if y4 = 0 then
      some ((-2), h3)
    else
    grd (0 ≤ (w32 (x1 + x4)) ∧ (w32 (x1 + x4)) < 260) <|
    bd (F_X12_has N x3 (h3 96 (w32 (x1 + x4)).toNat) h3) fun y6 h5 =>
    if y6 = 0 then
      grd (0 ≤ (w32 (x1 + x4)) ∧ (w32 (x1 + x4)) < 260) <|
      bnd ((ior x3 (ishl 1 (h5 96 (w32 (x1 + x4)).toNat)))) fun y7 =>
      bnd (w32 (x4 + 1)) fun y8 =>
      (L_X12_brides_32 N n) x1 x2 y7 y8 h5
    else
    some ((-2), h5)
set_option maxRecDepth 100000 in
set_option maxHeartbeats 4000000 in
theorem R_L_X12_brides_32 (N : Nat) : ∀ (n : Nat) (x1 : Int) (x2 : Int) (x3 : Int) (x4 : Int) (h : Hp) (res : Int × Hp), L_X12_brides_32 N n x1 x2 x3 x4 h = some res → Go M_X12_brides 3 32 [some (.inr 84), some (.inl x1), some (.inl x2), some (.inl x3), some (.inl x4), none, none] [] h (Qi res)
  | 0, _, _, _, _, _, _, H => by cases H
  | n + 1, x1, x2, x3, x4, h, res, H => by
    have ih := R_L_X12_brides_32 N n
    simp only [L_X12_brides_32] at H
    refine g_iload (T_X12_brides 20 _ _ _ rfl) rfl ?_
    refine g_iload_n (T_X12_brides 21 _ _ _ rfl) rfl ?_
    refine g_icmp_ge (tgt := 93) (T_X12_brides 22 _ _ _ rfl) (by decide) (fun cc => ?_) (fun cc => ?_)
    · replace H := ite_p cc H
      refine g_iload_n (T_X12_brides 56 _ _ _ rfl) rfl ?_
      refine g_bipush (T_X12_brides 57 _ _ _ rfl) (by decide) ?_
      refine g_icmp_eq (tgt := 113) (T_X12_brides 58 _ _ _ rfl) (by decide) (fun cc => ?_) (fun cc => ?_)
      · replace H := ite_p cc H
        refine g_weak [true, true, true, false, false, false, false] ?_
        exact R_J_X12_brides_113 N   _ _ _ _ H
      · replace H := ite_n cc H
        refine g_iload_n (T_X12_brides 59 _ _ _ rfl) rfl ?_
        refine g_iconst (T_X12_brides 60 _ _ _ rfl) ⟨by decide, by decide⟩ ?_
        refine g_iload_n (T_X12_brides 61 _ _ _ rfl) rfl ?_
        refine g_iconst (T_X12_brides 62 _ _ _ rfl) ⟨by decide, by decide⟩ ?_
        refine g_isub (T_X12_brides 63 _ _ _ rfl) ?_
        obtain ⟨y2, h1, hq, H⟩ := bd_some H
        refine g_callSi (M' := M_X12_in) (av := [.inl x2, .inl 0, .inl (w32 (x1 - 1))]) (st := []) (T_X12_brides 64 _ _ _ rfl) ml_X12_155 cb_X12_in rfl (Nat.le_of_ble_eq_true rfl) (by omega) (R_X12_in N _ _ _ _ _ hq) ?_
        refine g_if_ne (tgt := 113) (T_X12_brides 65 _ _ _ rfl) (by decide) (fun cc => ?_) (fun cc => ?_)
        · replace H := ite_n cc H
          refine g_weak [true, true, true, false, false, false, false] ?_
          exact R_J_X12_brides_113 N   _ _ _ _ H
        · replace H := ite_p cc H
          refine g_bipush (T_X12_brides 66 _ _ _ rfl) (by decide) ?_
          exact g_iret (T_X12_brides 67 _ _ _ rfl) rfl (qi_of H)
    · replace H := ite_n cc H
      refine g_aload_n (T_X12_brides 23 _ _ _ rfl) rfl ?_
      refine g_aload_n (T_X12_brides 24 _ _ _ rfl) rfl ?_
      refine g_getR (c := 83) (r := 97) (T_X12_brides 25 _ _ _ rfl) fl_X12_46 rfl (nR rfl) rfl (by decide) ?_
      refine g_iload_n (T_X12_brides 26 _ _ _ rfl) rfl ?_
      refine g_iload (T_X12_brides 27 _ _ _ rfl) rfl ?_
      refine g_iadd (T_X12_brides 28 _ _ _ rfl) ?_
      obtain ⟨hg, H⟩ := grd_some H
      refine g_bald (c := 96) (T_X12_brides 29 _ _ _ rfl) rfl hg ?_
      obtain ⟨y4, h3, hq, H⟩ := bd_some H
      refine g_callVi (M' := M_X12_isStreet) (c := 83) (av := [.inl (h 96 (w32 (x1 + x4)).toNat)]) (st := []) (T_X12_brides 30 _ _ _ rfl) ml_X12_146 cb_X12_isStreet rfl rfl (Nat.le_of_ble_eq_true rfl) (by omega) (R_X12_isStreet N _ _ _ hq) ?_
      refine g_if_eq (tgt := 70) (T_X12_brides 31 _ _ _ rfl) (by decide) (fun cc => ?_) (fun cc => ?_)
      · replace H := ite_p cc H
        refine g_bipush (T_X12_brides 41 _ _ _ rfl) (by decide) ?_
        exact g_iret (T_X12_brides 42 _ _ _ rfl) rfl (qi_of H)
      · replace H := ite_n cc H
        refine g_iload_n (T_X12_brides 32 _ _ _ rfl) rfl ?_
        refine g_aload_n (T_X12_brides 33 _ _ _ rfl) rfl ?_
        refine g_getR (c := 83) (r := 97) (T_X12_brides 34 _ _ _ rfl) fl_X12_46 rfl (nR rfl) rfl (by decide) ?_
        refine g_iload_n (T_X12_brides 35 _ _ _ rfl) rfl ?_
        refine g_iload (T_X12_brides 36 _ _ _ rfl) rfl ?_
        refine g_iadd (T_X12_brides 37 _ _ _ rfl) ?_
        obtain ⟨hg, H⟩ := grd_some H
        refine g_bald (c := 96) (T_X12_brides 38 _ _ _ rfl) rfl hg ?_
        obtain ⟨y6, h5, hq, H⟩ := bd_some H
        refine g_callSi (M' := M_X12_has) (av := [.inl x3, .inl (h3 96 (w32 (x1 + x4)).toNat)]) (st := []) (T_X12_brides 39 _ _ _ rfl) ml_X12_139 cb_X12_has rfl (Nat.le_of_ble_eq_true rfl) (by omega) (R_X12_has N _ _ _ _ hq) ?_
        refine g_if_eq (tgt := 73) (T_X12_brides 40 _ _ _ rfl) (by decide) (fun cc => ?_) (fun cc => ?_)
        · replace H := ite_p cc H
          refine g_iload_n (T_X12_brides 43 _ _ _ rfl) rfl ?_
          refine g_iconst (T_X12_brides 44 _ _ _ rfl) ⟨by decide, by decide⟩ ?_
          refine g_aload_n (T_X12_brides 45 _ _ _ rfl) rfl ?_
          refine g_getR (c := 83) (r := 97) (T_X12_brides 46 _ _ _ rfl) fl_X12_46 rfl (nR rfl) rfl (by decide) ?_
          refine g_iload_n (T_X12_brides 47 _ _ _ rfl) rfl ?_
          refine g_iload (T_X12_brides 48 _ _ _ rfl) rfl ?_
          refine g_iadd (T_X12_brides 49 _ _ _ rfl) ?_
          obtain ⟨hg, H⟩ := grd_some H
          refine g_bald (c := 96) (T_X12_brides 50 _ _ _ rfl) rfl hg ?_
          refine g_ishl (T_X12_brides 51 _ _ _ rfl) ?_
          refine g_ior (T_X12_brides 52 _ _ _ rfl) ?_
          refine g_bndI H fun y7 H => ?_
          refine g_istore_n (T_X12_brides 53 _ _ _ rfl) (by decide) ?_
          refine g_iincB (T_X12_brides 54 _ _ _ rfl) rfl (by decide) H fun y8 H => ?_
          refine g_goto (tgt := 32) (T_X12_brides 55 _ _ _ rfl) (by decide) ?_
          refine g_weak [true, true, true, true, true, false, false] ?_
          exact ih _ _ _ _ _ _ H
        · replace H := ite_n cc H
          refine g_bipush (T_X12_brides 41 _ _ _ rfl) (by decide) ?_
          exact g_iret (T_X12_brides 42 _ _ _ rfl) rfl (qi_of H)
def F_X12_brides (N : Nat) (x1 : Int) (x2 : Int) (h : Hp) : Option (Int × Hp) :=
  bd (F_X12_in N x1 1 6 h) fun y2 h1 =>
  if y2 = 0 then
    some ((-1), h1)
  else
  if (w32 (2 * x1)) ≤ (h1 83 15) then
    bnd (hw h1 83 15 0) fun h3 =>
    L_X12_brides_32 N  N x1 x2 0 0 h3
  else
  some ((-1), h1)
set_option maxRecDepth 100000 in
set_option maxHeartbeats 4000000 in
theorem R_X12_brides (N : Nat) (x1 : Int) (x2 : Int) (h : Hp) (res : Int × Hp) (H : F_X12_brides N x1 x2 h = some res) : Runs M_X12_brides 3 [.inr 84, .inl x1, .inl x2] h (Qi res) := by
  refine Runs.of rfl (Nat.le_of_ble_eq_true rfl) ?_
  show Go M_X12_brides 3 0 [some (.inr 84), some (.inl x1), some (.inl x2), none, none, none, none] [] h (Qi res)
  unfold F_X12_brides at H
  refine g_iload_n (T_X12_brides 0 _ _ _ rfl) rfl ?_
  refine g_iconst (T_X12_brides 1 _ _ _ rfl) ⟨by decide, by decide⟩ ?_
  refine g_bipush (T_X12_brides 2 _ _ _ rfl) (by decide) ?_
  obtain ⟨y2, h1, hq, H⟩ := bd_some H
  refine g_callSi (M' := M_X12_in) (av := [.inl x1, .inl 1, .inl 6]) (st := []) (T_X12_brides 3 _ _ _ rfl) ml_X12_155 cb_X12_in rfl (Nat.le_of_ble_eq_true rfl) (by omega) (R_X12_in N _ _ _ _ _ hq) ?_
  refine g_if_eq (tgt := 20) (T_X12_brides 4 _ _ _ rfl) (by decide) (fun cc => ?_) (fun cc => ?_)
  · replace H := ite_p cc H
    refine g_iconst (T_X12_brides 11 _ _ _ rfl) ⟨by decide, by decide⟩ ?_
    exact g_iret (T_X12_brides 12 _ _ _ rfl) rfl (qi_of H)
  · replace H := ite_n cc H
    refine g_iconst (T_X12_brides 5 _ _ _ rfl) ⟨by decide, by decide⟩ ?_
    refine g_iload_n (T_X12_brides 6 _ _ _ rfl) rfl ?_
    refine g_imul (T_X12_brides 7 _ _ _ rfl) ?_
    refine g_aload_n (T_X12_brides 8 _ _ _ rfl) rfl ?_
    refine g_getI (c := 83) (T_X12_brides 9 _ _ _ rfl) fl_X12_159 rfl (Or.inl rfl) ?_
    refine g_icmp_le (tgt := 22) (T_X12_brides 10 _ _ _ rfl) (by decide) (fun cc => ?_) (fun cc => ?_)
    · replace H := ite_p cc H
      refine g_aload_n (T_X12_brides 13 _ _ _ rfl) rfl ?_
      refine g_iconst (T_X12_brides 14 _ _ _ rfl) ⟨by decide, by decide⟩ ?_
      refine g_put (c := 83) (T_X12_brides 15 _ _ _ rfl) fl_X12_159 rfl (Or.inl rfl) ?_
      refine g_bndH H fun h3 H => ?_
      refine g_iconst (T_X12_brides 16 _ _ _ rfl) ⟨by decide, by decide⟩ ?_
      refine g_istore_n (T_X12_brides 17 _ _ _ rfl) (by decide) ?_
      refine g_iconst (T_X12_brides 18 _ _ _ rfl) ⟨by decide, by decide⟩ ?_
      refine g_istore (T_X12_brides 19 _ _ _ rfl) (by decide) ?_
      refine g_weak [true, true, true, true, true, false, false] ?_
      refine R_L_X12_brides_32 N   _ _ _ _ _ _ _ H
    · replace H := ite_n cc H
      refine g_iconst (T_X12_brides 11 _ _ _ rfl) ⟨by decide, by decide⟩ ?_
      exact g_iret (T_X12_brides 12 _ _ _ rfl) rfl (qi_of H)
