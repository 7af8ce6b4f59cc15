/-! by program: the methods as functions, and the walks that show it -/
def F_X11_isWithin (N : Nat) (x0 : Int) (x1 : Int) (x2 : Int) (h : Hp) : Option (Int × Hp) :=
  if x0 < x1 then
    some (0, h)
  else
  if x2 < x0 then
    some (0, h)
  else
  some (1, h)
set_option maxRecDepth 100000 in
set_option maxHeartbeats 4000000 in
theorem R_X11_isWithin (N : Nat) (x0 : Int) (x1 : Int) (x2 : Int) (h : Hp) (res : Int × Hp) (H : F_X11_isWithin N x0 x1 x2 h = some res) : Runs M_X11_isWithin 1 [.inl x0, .inl x1, .inl x2] h (Qi res) := by
  refine Runs.of rfl (Nat.le_of_ble_eq_true rfl) ?_
  show Go M_X11_isWithin 1 0 [some (.inl x0), some (.inl x1), some (.inl x2)] [] h (Qi res)
  unfold F_X11_isWithin at H
  refine g_iload_n (T_X11_isWithin 0 _ _ _ rfl) rfl ?_
  refine g_iload_n (T_X11_isWithin 1 _ _ _ rfl) rfl ?_
  refine g_icmp_lt (tgt := 14) (T_X11_isWithin 2 _ _ _ rfl) (by decide) (fun cc => ?_) (fun cc => ?_)
  · replace H := ite_p cc H
    refine g_iconst (T_X11_isWithin 8 _ _ _ rfl) ⟨by decide, by decide⟩ ?_
    exact g_zret (T_X11_isWithin 9 _ _ _ rfl) rfl (by decide) (qi_of H)
  · replace H := ite_n cc H
    refine g_iload_n (T_X11_isWithin 3 _ _ _ rfl) rfl ?_
    refine g_iload_n (T_X11_isWithin 4 _ _ _ rfl) rfl ?_
    refine g_icmp_gt (tgt := 14) (T_X11_isWithin 5 _ _ _ rfl) (by decide) (fun cc => ?_) (fun cc => ?_)
    · replace H := ite_p cc H
      refine g_iconst (T_X11_isWithin 8 _ _ _ rfl) ⟨by decide, by decide⟩ ?_
      exact g_zret (T_X11_isWithin 9 _ _ _ rfl) rfl (by decide) (qi_of H)
    · replace H := ite_n cc H
      refine g_iconst (T_X11_isWithin 6 _ _ _ rfl) ⟨by decide, by decide⟩ ?_
      refine g_goto (tgt := 15) (T_X11_isWithin 7 _ _ _ rfl) (by decide) ?_
      exact g_zret (T_X11_isWithin 9 _ _ _ rfl) rfl (by decide) (qi_of H)
def F_X1_tell (N : Nat) (x1 : Int) (x2 : Int) (x3 : Int) (x4 : Int) (h : Hp) : Option (Hp) :=
  bd (F_X11_isWithin N x1 0 13 h) fun y2 h1 =>
  if y2 = 0 then
    some h1
  else
  grd (0 ≤ x1 ∧ x1 < 14) <|
  bnd (hw h1 2 x1.toNat x2) fun h3 =>
  grd (0 ≤ x1 ∧ x1 < 14) <|
  bnd (hw h3 3 x1.toNat x3) fun h4 =>
  grd (0 ≤ x1 ∧ x1 < 14) <|
  bnd (hw h4 4 x1.toNat x4) fun h5 =>
  bnd (hw h5 1 4 (ior (h5 1 4) (ishl 1 x1))) fun h6 =>
  some h6
set_option maxRecDepth 100000 in
set_option maxHeartbeats 4000000 in
theorem R_X1_tell (N : Nat) (x1 : Int) (x2 : Int) (x3 : Int) (x4 : Int) (h : Hp) (res : Hp) (H : F_X1_tell N x1 x2 x3 x4 h = some res) : Runs M_X1_tell 2 [.inr 2, .inl x1, .inl x2, .inl x3, .inl x4] h (Qv res) := by
  refine Runs.of rfl (Nat.le_of_ble_eq_true rfl) ?_
  show Go M_X1_tell 2 0 [some (.inr 2), some (.inl x1), some (.inl x2), some (.inl x3), some (.inl x4)] [] h (Qv res)
  unfold F_X1_tell at H
  refine g_iload_n (T_X1_tell 0 _ _ _ rfl) rfl ?_
  refine g_iconst (T_X1_tell 1 _ _ _ rfl) ⟨by decide, by decide⟩ ?_
  refine g_bipush (T_X1_tell 2 _ _ _ rfl) (by decide) ?_
  obtain ⟨y2, h1, hq, H⟩ := bd_some H
  refine g_callSNi (M' := M_X11_isWithin) (av := [.inl x1, .inl 0, .inl 13]) (st := []) (T_X1_tell 3 _ _ _ rfl) ml_X1_37 cb_X11_isWithin rfl (Nat.le_of_ble_eq_true rfl) (by omega) (R_X11_isWithin N _ _ _ _ _ hq) ?_
  refine g_if_eq (tgt := 44) (T_X1_tell 4 _ _ _ rfl) (by decide) (fun cc => ?_) (fun cc => ?_)
  · replace H := ite_p cc H
    exact g_vret (T_X1_tell 28 _ _ _ rfl) rfl (qv_of H)
  · replace H := ite_n cc H
    refine g_aload_n (T_X1_tell 5 _ _ _ rfl) rfl ?_
    refine g_getR (c := 1) (r := 3) (T_X1_tell 6 _ _ _ rfl) fl_X1_9 rfl (nR rfl) rfl (by decide) ?_
    refine g_iload_n (T_X1_tell 7 _ _ _ rfl) rfl ?_
    refine g_iload_n (T_X1_tell 8 _ _ _ rfl) rfl ?_
    obtain ⟨hg, H⟩ := grd_some H
    refine g_iast (c := 2) (T_X1_tell 9 _ _ _ rfl) rfl hg ?_
    refine g_bndH H fun h3 H => ?_
    refine g_aload_n (T_X1_tell 10 _ _ _ rfl) rfl ?_
    refine g_getR (c := 1) (r := 4) (T_X1_tell 11 _ _ _ rfl) fl_X1_15 rfl (nR rfl) rfl (by decide) ?_
    refine g_iload_n (T_X1_tell 12 _ _ _ rfl) rfl ?_
    refine g_iload_n (T_X1_tell 13 _ _ _ rfl) rfl ?_
    obtain ⟨hg, H⟩ := grd_some H
    refine g_iast (c := 3) (T_X1_tell 14 _ _ _ rfl) rfl hg ?_
    refine g_bndH H fun h4 H => ?_
    refine g_aload_n (T_X1_tell 15 _ _ _ rfl) rfl ?_
    refine g_getR (c := 1) (r := 5) (T_X1_tell 16 _ _ _ rfl) fl_X1_18 rfl (nR rfl) rfl (by decide) ?_
    refine g_iload_n (T_X1_tell 17 _ _ _ rfl) rfl ?_
    refine g_iload (T_X1_tell 18 _ _ _ rfl) rfl ?_
    obtain ⟨hg, H⟩ := grd_some H
    refine g_iast (c := 4) (T_X1_tell 19 _ _ _ rfl) rfl hg ?_
    refine g_bndH H fun h5 H => ?_
    refine g_aload_n (T_X1_tell 20 _ _ _ rfl) rfl ?_
    refine g_dup (T_X1_tell 21 _ _ _ rfl) ?_
    refine g_getI (c := 1) (T_X1_tell 22 _ _ _ rfl) fl_X1_27 rfl (Or.inl rfl) ?_
    refine g_iconst (T_X1_tell 23 _ _ _ rfl) ⟨by decide, by decide⟩ ?_
    refine g_iload_n (T_X1_tell 24 _ _ _ rfl) rfl ?_
    refine g_ishl (T_X1_tell 25 _ _ _ rfl) ?_
    refine g_ior (T_X1_tell 26 _ _ _ rfl) ?_
    refine g_put (c := 1) (T_X1_tell 27 _ _ _ rfl) fl_X1_27 rfl (Or.inl rfl) ?_
    refine g_bndH H fun h6 H => ?_
    exact g_vret (T_X1_tell 28 _ _ _ rfl) rfl (qv_of H)
def F_X11_street (N : Nat) (x1 : Int) (x2 : Int) (x3 : Int) (x4 : Int) (h : Hp) : Option (Int × Hp) :=
  bd (F_X11_isWithin N x1 0 13 h) fun y2 h1 =>
  if y2 = 0 then
    some (0, h1)
  else
  bd (F_X11_isWithin N x2 0 99 h1) fun y4 h3 =>
  if y4 = 0 then
    some (0, h3)
  else
  bd (F_X11_isWithin N x3 0 9 h3) fun y6 h5 =>
  if y6 = 0 then
    some (0, h5)
  else
  bd (F_X11_isWithin N x4 0 99 h5) fun y8 h7 =>
  if y8 = 0 then
    some (0, h7)
  else
  bv (F_X1_tell N x1 x2 x3 x4 h7) fun h9 =>
  some (1, h9)
set_option maxRecDepth 100000 in
set_option maxHeartbeats 4000000 in
theorem R_X11_street (N : Nat) (x1 : Int) (x2 : Int) (x3 : Int) (x4 : Int) (h : Hp) (res : Int × Hp) (H : F_X11_street N x1 x2 x3 x4 h = some res) : Runs M_X11_street 3 [.inr 1, .inl x1, .inl x2, .inl x3, .inl x4] h (Qi res) := by
  refine Runs.of rfl (Nat.le_of_ble_eq_true rfl) ?_
  show Go M_X11_street 3 0 [some (.inr 1), some (.inl x1), some (.inl x2), some (.inl x3), some (.inl x4)] [] h (Qi res)
  unfold F_X11_street at H
  refine g_iload_n (T_X11_street 0 _ _ _ rfl) rfl ?_
  refine g_iconst (T_X11_street 1 _ _ _ rfl) ⟨by decide, by decide⟩ ?_
  refine g_bipush (T_X11_street 2 _ _ _ rfl) (by decide) ?_
  obtain ⟨y2, h1, hq, H⟩ := bd_some H
  refine g_callSi (M' := M_X11_isWithin) (av := [.inl x1, .inl 0, .inl 13]) (st := []) (T_X11_street 3 _ _ _ rfl) ml_X11_96 cb_X11_isWithin rfl (Nat.le_of_ble_eq_true rfl) (by omega) (R_X11_isWithin N _ _ _ _ _ hq) ?_
  refine g_if_eq (tgt := 41) (T_X11_street 4 _ _ _ rfl) (by decide) (fun cc => ?_) (fun cc => ?_)
  · replace H := ite_p cc H
    refine g_iconst (T_X11_street 20 _ _ _ rfl) ⟨by decide, by decide⟩ ?_
    exact g_zret (T_X11_street 21 _ _ _ rfl) rfl (by decide) (qi_of H)
  · replace H := ite_n cc H
    refine g_iload_n (T_X11_street 5 _ _ _ rfl) rfl ?_
    refine g_iconst (T_X11_street 6 _ _ _ rfl) ⟨by decide, by decide⟩ ?_
    refine g_bipush (T_X11_street 7 _ _ _ rfl) (by decide) ?_
    obtain ⟨y4, h3, hq, H⟩ := bd_some H
    refine g_callSi (M' := M_X11_isWithin) (av := [.inl x2, .inl 0, .inl 99]) (st := []) (T_X11_street 8 _ _ _ rfl) ml_X11_96 cb_X11_isWithin rfl (Nat.le_of_ble_eq_true rfl) (by omega) (R_X11_isWithin N _ _ _ _ _ hq) ?_
    refine g_if_eq (tgt := 41) (T_X11_street 9 _ _ _ rfl) (by decide) (fun cc => ?_) (fun cc => ?_)
    · replace H := ite_p cc H
      refine g_iconst (T_X11_street 20 _ _ _ rfl) ⟨by decide, by decide⟩ ?_
      exact g_zret (T_X11_street 21 _ _ _ rfl) rfl (by decide) (qi_of H)
    · replace H := ite_n cc H
      refine g_iload_n (T_X11_street 10 _ _ _ rfl) rfl ?_
      refine g_iconst (T_X11_street 11 _ _ _ rfl) ⟨by decide, by decide⟩ ?_
      refine g_bipush (T_X11_street 12 _ _ _ rfl) (by decide) ?_
      obtain ⟨y6, h5, hq, H⟩ := bd_some H
      refine g_callSi (M' := M_X11_isWithin) (av := [.inl x3, .inl 0, .inl 9]) (st := []) (T_X11_street 13 _ _ _ rfl) ml_X11_96 cb_X11_isWithin rfl (Nat.le_of_ble_eq_true rfl) (by omega) (R_X11_isWithin N _ _ _ _ _ hq) ?_
      refine g_if_eq (tgt := 41) (T_X11_street 14 _ _ _ rfl) (by decide) (fun cc => ?_) (fun cc => ?_)
      · replace H := ite_p cc H
        refine g_iconst (T_X11_street 20 _ _ _ rfl) ⟨by decide, by decide⟩ ?_
        exact g_zret (T_X11_street 21 _ _ _ rfl) rfl (by decide) (qi_of H)
      · replace H := ite_n cc H
        refine g_iload (T_X11_street 15 _ _ _ rfl) rfl ?_
        refine g_iconst (T_X11_street 16 _ _ _ rfl) ⟨by decide, by decide⟩ ?_
        refine g_bipush (T_X11_street 17 _ _ _ rfl) (by decide) ?_
        obtain ⟨y8, h7, hq, H⟩ := bd_some H
        refine g_callSi (M' := M_X11_isWithin) (av := [.inl x4, .inl 0, .inl 99]) (st := []) (T_X11_street 18 _ _ _ rfl) ml_X11_96 cb_X11_isWithin rfl (Nat.le_of_ble_eq_true rfl) (by omega) (R_X11_isWithin N _ _ _ _ _ hq) ?_
        refine g_if_ne (tgt := 43) (T_X11_street 19 _ _ _ rfl) (by decide) (fun cc => ?_) (fun cc => ?_)
        · replace H := ite_n cc H
          refine g_aload_n (T_X11_street 22 _ _ _ rfl) rfl ?_
          refine g_getR (c := 0) (r := 2) (T_X11_street 23 _ _ _ rfl) fl_X11_28 rfl (nR rfl) rfl (by decide) ?_
          refine g_iload_n (T_X11_street 24 _ _ _ rfl) rfl ?_
          refine g_iload_n (T_X11_street 25 _ _ _ rfl) rfl ?_
          refine g_iload_n (T_X11_street 26 _ _ _ rfl) rfl ?_
          refine g_iload (T_X11_street 27 _ _ _ rfl) rfl ?_
          obtain ⟨h9, hq, H⟩ := bv_some H
          refine g_callVv (M' := M_X1_tell) (c := 1) (av := [.inl x1, .inl x2, .inl x3, .inl x4]) (st := []) (T_X11_street 28 _ _ _ rfl) ml_X11_100 cb_X1_tell rfl rfl (Nat.le_of_ble_eq_true rfl) (by omega) (R_X1_tell N _ _ _ _ _ _ hq) ?_
          refine g_iconst (T_X11_street 29 _ _ _ rfl) ⟨by decide, by decide⟩ ?_
          exact g_zret (T_X11_street 30 _ _ _ rfl) rfl (by decide) (qi_of H)
        · replace H := ite_p cc H
          refine g_iconst (T_X11_street 20 _ _ _ rfl) ⟨by decide, by decide⟩ ?_
          exact g_zret (T_X11_street 21 _ _ _ rfl) rfl (by decide) (qi_of H)
def F_X11_cartAt (N : Nat) (x1 : Int) (h : Hp) : Option (Nat × Hp) :=
  bd (F_X11_isWithin N x1 0 4 h) fun y2 h1 =>
  if y2 = 0 then
    some (0, h1)
  else
  grd (0 ≤ x1 ∧ x1 < 5 ∧ (h1 20 x1.toNat).toNat ≤ 1000) <|
  bnd ((h1 20 x1.toNat).toNat) fun z3 =>
  some (z3, h1)
set_option maxRecDepth 100000 in
set_option maxHeartbeats 4000000 in
theorem R_X11_cartAt (N : Nat) (x1 : Int) (h : Hp) (res : Nat × Hp) (H : F_X11_cartAt N x1 h = some res) : Runs M_X11_cartAt 2 [.inr 1, .inl x1] h (Qr res) := by
  refine Runs.of rfl (Nat.le_of_ble_eq_true rfl) ?_
  show Go M_X11_cartAt 2 0 [some (.inr 1), some (.inl x1)] [] h (Qr res)
  unfold F_X11_cartAt at H
  refine g_iload_n (T_X11_cartAt 0 _ _ _ rfl) rfl ?_
  refine g_iconst (T_X11_cartAt 1 _ _ _ rfl) ⟨by decide, by decide⟩ ?_
  refine g_iconst (T_X11_cartAt 2 _ _ _ rfl) ⟨by decide, by decide⟩ ?_
  obtain ⟨y2, h1, hq, H⟩ := bd_some H
  refine g_callSi (M' := M_X11_isWithin) (av := [.inl x1, .inl 0, .inl 4]) (st := []) (T_X11_cartAt 3 _ _ _ rfl) ml_X11_96 cb_X11_isWithin rfl (Nat.le_of_ble_eq_true rfl) (by omega) (R_X11_isWithin N _ _ _ _ _ hq) ?_
  refine g_if_eq (tgt := 18) (T_X11_cartAt 4 _ _ _ rfl) (by decide) (fun cc => ?_) (fun cc => ?_)
  · replace H := ite_p cc H
    refine g_null (T_X11_cartAt 10 _ _ _ rfl) ?_
    exact g_aret (T_X11_cartAt 11 _ _ _ rfl) rfl (qr_of H)
  · replace H := ite_n cc H
    refine g_aload_n (T_X11_cartAt 5 _ _ _ rfl) rfl ?_
    refine g_getR (c := 0) (r := 21) (T_X11_cartAt 6 _ _ _ rfl) fl_X11_47 rfl (nR rfl) rfl (by decide) ?_
    refine g_iload_n (T_X11_cartAt 7 _ _ _ rfl) rfl ?_
    obtain ⟨hg, H⟩ := grd_some H
    refine g_aald (c := 20) (T_X11_cartAt 8 _ _ _ rfl) rfl ⟨hg.1, hg.2.1⟩ hg.2.2 ?_
    refine g_bndR H fun z3 H => ?_
    refine g_goto (tgt := 19) (T_X11_cartAt 9 _ _ _ rfl) (by decide) ?_
    exact g_aret (T_X11_cartAt 11 _ _ _ rfl) rfl (qr_of H)
def F_X0_tellRoom (N : Nat) (t : Nat) (x1 : Int) (h : Hp) : Option (Hp) :=
  bnd (hw h t 4 x1) fun h1 =>
  some h1
set_option maxRecDepth 100000 in
set_option maxHeartbeats 4000000 in
theorem R_X0_tellRoom (N : Nat) (t : Nat) (ht : isCart t) (x1 : Int) (h : Hp) (res : Hp) (H : F_X0_tellRoom N t x1 h = some res) : Runs M_X0_tellRoom 1 [.inr (t + 1), .inl x1] h (Qv res) := by
  refine Runs.of rfl (Nat.le_of_ble_eq_true rfl) ?_
  show Go M_X0_tellRoom 1 0 [some (.inr (t + 1)), some (.inl x1)] [] h (Qv res)
  unfold F_X0_tellRoom at H
  refine g_aload_n (T_X0_tellRoom 0 _ _ _ rfl) rfl ?_
  refine g_iload_n (T_X0_tellRoom 1 _ _ _ rfl) rfl ?_
  refine g_put (c := t) (T_X0_tellRoom 2 _ _ _ rfl) fl_X0_22 ht.2.1 (Or.inl rfl) ?_
  refine g_bndH H fun h1 H => ?_
  exact g_vret (T_X0_tellRoom 3 _ _ _ rfl) rfl (qv_of H)
def F_X11_cart (N : Nat) (x1 : Int) (x2 : Int) (h : Hp) : Option (Int × Hp) :=
  bd (F_X11_cartAt N x1 h) fun z2 h1 =>
  if z2 = 0 then
    some (0, h1)
  else
  bd (F_X11_isWithin N x2 1 99 h1) fun y4 h3 =>
  if y4 = 0 then
    some (0, h3)
  else
  grd (cartR z2) <|
  bv (F_X0_tellRoom N (z2 - 1) x2 h3) fun h6 =>
  some (1, h6)
set_option maxRecDepth 100000 in
set_option maxHeartbeats 4000000 in
theorem R_X11_cart (N : Nat) (x1 : Int) (x2 : Int) (h : Hp) (res : Int × Hp) (H : F_X11_cart N x1 x2 h = some res) : Runs M_X11_cart 3 [.inr 1, .inl x1, .inl x2] h (Qi res) := by
  refine Runs.of rfl (Nat.le_of_ble_eq_true rfl) ?_
  show Go M_X11_cart 3 0 [some (.inr 1), some (.inl x1), some (.inl x2), none] [] h (Qi res)
  unfold F_X11_cart at H
  refine g_aload_n (T_X11_cart 0 _ _ _ rfl) rfl ?_
  refine g_iload_n (T_X11_cart 1 _ _ _ rfl) rfl ?_
  obtain ⟨z2, h1, hq, H⟩ := bd_some H
  refine g_callVr (M' := M_X11_cartAt) (c := 0) (av := [.inl x1]) (st := []) (T_X11_cart 2 _ _ _ rfl) ml_X11_104 cb_X11_cartAt rfl rfl (Nat.le_of_ble_eq_true rfl) (by omega) (R_X11_cartAt N _ _ _ hq) ?_
  refine g_astore_n (T_X11_cart 3 _ _ _ rfl) (by decide) ?_
  refine g_aload_n (T_X11_cart 4 _ _ _ rfl) rfl ?_
  refine g_ifnull (tgt := 20) (T_X11_cart 5 _ _ _ rfl) (by decide) (fun cc => ?_) (fun cc => ?_)
  · replace H := ite_p cc H
    refine g_iconst (T_X11_cart 11 _ _ _ rfl) ⟨by decide, by decide⟩ ?_
    exact g_zret (T_X11_cart 12 _ _ _ rfl) rfl (by decide) (qi_of H)
  · replace H := ite_n cc H
    refine g_iload_n (T_X11_cart 6 _ _ _ rfl) rfl ?_
    refine g_iconst (T_X11_cart 7 _ _ _ rfl) ⟨by decide, by decide⟩ ?_
    refine g_bipush (T_X11_cart 8 _ _ _ rfl) (by decide) ?_
    obtain ⟨y4, h3, hq, H⟩ := bd_some H
    refine g_callSi (M' := M_X11_isWithin) (av := [.inl x2, .inl 1, .inl 99]) (st := []) (T_X11_cart 9 _ _ _ rfl) ml_X11_96 cb_X11_isWithin rfl (Nat.le_of_ble_eq_true rfl) (by omega) (R_X11_isWithin N _ _ _ _ _ hq) ?_
    refine g_if_ne (tgt := 22) (T_X11_cart 10 _ _ _ rfl) (by decide) (fun cc => ?_) (fun cc => ?_)
    · replace H := ite_n cc H
      refine g_aload_n (T_X11_cart 13 _ _ _ rfl) rfl ?_
      refine g_iload_n (T_X11_cart 14 _ _ _ rfl) rfl ?_
      obtain ⟨hg, H⟩ := grd_some H
      obtain ⟨t5, rfl, ht5⟩ := cartR_spec hg
      simp only [Nat.add_sub_cancel] at H
      obtain ⟨h6, hq, H⟩ := bv_some H
      refine g_callVv (M' := M_X0_tellRoom) (c := t5) (av := [.inl x2]) (st := []) (T_X11_cart 15 _ _ _ rfl) ml_X11_108 cb_X0_tellRoom ht5.2.1 rfl (Nat.le_of_ble_eq_true rfl) (by omega) (R_X0_tellRoom N t5 ht5 _ _ _ hq) ?_
      refine g_iconst (T_X11_cart 16 _ _ _ rfl) ⟨by decide, by decide⟩ ?_
      exact g_zret (T_X11_cart 17 _ _ _ rfl) rfl (by decide) (qi_of H)
    · replace H := ite_p cc H
      refine g_iconst (T_X11_cart 11 _ _ _ rfl) ⟨by decide, by decide⟩ ?_
      exact g_zret (T_X11_cart 12 _ _ _ rfl) rfl (by decide) (qi_of H)
def F_X1_isTold (N : Nat) (x1 : Int) (h : Hp) : Option (Int × Hp) :=
  if x1 < 0 then
    some (0, h)
  else
  if 14 ≤ x1 then
    some (0, h)
  else
  if (iand (ishr (h 1 4) x1) 1) = 1 then
    some (1, h)
  else
  some (0, h)
set_option maxRecDepth 100000 in
set_option maxHeartbeats 4000000 in
theorem R_X1_isTold (N : Nat) (x1 : Int) (h : Hp) (res : Int × Hp) (H : F_X1_isTold N x1 h = some res) : Runs M_X1_isTold 1 [.inr 2, .inl x1] h (Qi res) := by
  refine Runs.of rfl (Nat.le_of_ble_eq_true rfl) ?_
  show Go M_X1_isTold 1 0 [some (.inr 2), some (.inl x1)] [] h (Qi res)
  unfold F_X1_isTold at H
  refine g_iload_n (T_X1_isTold 0 _ _ _ rfl) rfl ?_
  refine g_if_lt (tgt := 26) (T_X1_isTold 1 _ _ _ rfl) (by decide) (fun cc => ?_) (fun cc => ?_)
  · replace H := ite_p cc H
    refine g_iconst (T_X1_isTold 15 _ _ _ rfl) ⟨by decide, by decide⟩ ?_
    exact g_zret (T_X1_isTold 16 _ _ _ rfl) rfl (by decide) (qi_of H)
  · replace H := ite_n cc H
    refine g_iload_n (T_X1_isTold 2 _ _ _ rfl) rfl ?_
    refine g_bipush (T_X1_isTold 3 _ _ _ rfl) (by decide) ?_
    refine g_icmp_ge (tgt := 26) (T_X1_isTold 4 _ _ _ rfl) (by decide) (fun cc => ?_) (fun cc => ?_)
    · replace H := ite_p cc H
      refine g_iconst (T_X1_isTold 15 _ _ _ rfl) ⟨by decide, by decide⟩ ?_
      exact g_zret (T_X1_isTold 16 _ _ _ rfl) rfl (by decide) (qi_of H)
    · replace H := ite_n cc H
      refine g_aload_n (T_X1_isTold 5 _ _ _ rfl) rfl ?_
      refine g_getI (c := 1) (T_X1_isTold 6 _ _ _ rfl) fl_X1_27 rfl (Or.inl rfl) ?_
      refine g_iload_n (T_X1_isTold 7 _ _ _ rfl) rfl ?_
      refine g_ishr (T_X1_isTold 8 _ _ _ rfl) ?_
      refine g_iconst (T_X1_isTold 9 _ _ _ rfl) ⟨by decide, by decide⟩ ?_
      refine g_iand (T_X1_isTold 10 _ _ _ rfl) ?_
      refine g_iconst (T_X1_isTold 11 _ _ _ rfl) ⟨by decide, by decide⟩ ?_
      refine g_icmp_ne (tgt := 26) (T_X1_isTold 12 _ _ _ rfl) (by decide) (fun cc => ?_) (fun cc => ?_)
      · replace H := ite_n cc H
        refine g_iconst (T_X1_isTold 15 _ _ _ rfl) ⟨by decide, by decide⟩ ?_
        exact g_zret (T_X1_isTold 16 _ _ _ rfl) rfl (by decide) (qi_of H)
      · replace H := ite_p cc H
        refine g_iconst (T_X1_isTold 13 _ _ _ rfl) ⟨by decide, by decide⟩ ?_
        refine g_goto (tgt := 27) (T_X1_isTold 14 _ _ _ rfl) (by decide) ?_
        exact g_zret (T_X1_isTold 16 _ _ _ rfl) rfl (by decide) (qi_of H)
def F_X1_depthOf (N : Nat) (x1 : Int) (h : Hp) : Option (Int × Hp) :=
  if x1 < 0 then
    some (0, h)
  else
  if 14 ≤ x1 then
    some (0, h)
  else
  grd (0 ≤ x1 ∧ x1 < 14) <|
  some ((h 5 x1.toNat), h)
set_option maxRecDepth 100000 in
set_option maxHeartbeats 4000000 in
theorem R_X1_depthOf (N : Nat) (x1 : Int) (h : Hp) (res : Int × Hp) (H : F_X1_depthOf N x1 h = some res) : Runs M_X1_depthOf 1 [.inr 2, .inl x1] h (Qi res) := by
  refine Runs.of rfl (Nat.le_of_ble_eq_true rfl) ?_
  show Go M_X1_depthOf 1 0 [some (.inr 2), some (.inl x1)] [] h (Qi res)
  unfold F_X1_depthOf at H
  refine g_iload_n (T_X1_depthOf 0 _ _ _ rfl) rfl ?_
  refine g_if_lt (tgt := 19) (T_X1_depthOf 1 _ _ _ rfl) (by decide) (fun cc => ?_) (fun cc => ?_)
  · replace H := ite_p cc H
    refine g_iconst (T_X1_depthOf 10 _ _ _ rfl) ⟨by decide, by decide⟩ ?_
    exact g_iret (T_X1_depthOf 11 _ _ _ rfl) rfl (qi_of H)
  · replace H := ite_n cc H
    refine g_iload_n (T_X1_depthOf 2 _ _ _ rfl) rfl ?_
    refine g_bipush (T_X1_depthOf 3 _ _ _ rfl) (by decide) ?_
    refine g_icmp_ge (tgt := 19) (T_X1_depthOf 4 _ _ _ rfl) (by decide) (fun cc => ?_) (fun cc => ?_)
    · replace H := ite_p cc H
      refine g_iconst (T_X1_depthOf 10 _ _ _ rfl) ⟨by decide, by decide⟩ ?_
      exact g_iret (T_X1_depthOf 11 _ _ _ rfl) rfl (qi_of H)
    · replace H := ite_n cc H
      refine g_aload_n (T_X1_depthOf 5 _ _ _ rfl) rfl ?_
      refine g_getR (c := 1) (r := 6) (T_X1_depthOf 6 _ _ _ rfl) fl_X1_21 rfl (nR rfl) rfl (by decide) ?_
      refine g_iload_n (T_X1_depthOf 7 _ _ _ rfl) rfl ?_
      obtain ⟨hg, H⟩ := grd_some H
      refine g_iald (c := 5) (T_X1_depthOf 8 _ _ _ rfl) rfl hg ?_
      refine g_goto (tgt := 20) (T_X1_depthOf 9 _ _ _ rfl) (by decide) ?_
      exact g_iret (T_X1_depthOf 11 _ _ _ rfl) rfl (qi_of H)
def J_X1_deepen_28 (N : Nat) (x1 : Int) (h : Hp) : Option (Int × Hp) :=
  bd (F_X1_depthOf N x1 h) fun y2 h1 =>
  some (y2, h1)
set_option maxRecDepth 100000 in
set_option maxHeartbeats 4000000 in
theorem R_J_X1_deepen_28 (N : Nat) (x1 : Int) (h : Hp) (res : Int × Hp) (H : J_X1_deepen_28 N x1 h = some res) : Go M_X1_deepen 2 28 [some (.inr 2), some (.inl x1), none] [] h (Qi res) := by
  unfold J_X1_deepen_28 at H
  refine g_aload_n (T_X1_deepen 16 _ _ _ rfl) rfl ?_
  refine g_iload_n (T_X1_deepen 17 _ _ _ rfl) rfl ?_
  obtain ⟨y2, h1, hq, H⟩ := bd_some H
  refine g_callVi (M' := M_X1_depthOf) (c := 1) (av := [.inl x1]) (st := []) (T_X1_deepen 18 _ _ _ rfl) ml_X1_51 cb_X1_depthOf rfl rfl (Nat.le_of_ble_eq_true rfl) (by omega) (R_X1_depthOf N _ _ _ hq) ?_
  exact g_iret (T_X1_deepen 19 _ _ _ rfl) rfl (qi_of H)
def F_X1_deepen (N : Nat) (x1 : Int) (x2 : Int) (h : Hp) : Option (Int × Hp) :=
  bd (F_X1_isTold N x1 h) fun y2 h1 =>
  if y2 = 0 then
    J_X1_deepen_28 N  x1 h1
  else
  grd (0 ≤ x1 ∧ x1 < 14) <|
  grd (0 ≤ x1 ∧ x1 < 14) <|
  bnd (hw h1 5 x1.toNat (imin 999 (w32 ((h1 5 x1.toNat) + x2)))) fun h3 =>
  J_X1_deepen_28 N  x1 h3
set_option maxRecDepth 100000 in
set_option maxHeartbeats 4000000 in
theorem R_X1_deepen (N : Nat) (x1 : Int) (x2 : Int) (h : Hp) (res : Int × Hp) (H : F_X1_deepen N x1 x2 h = some res) : Runs M_X1_deepen 2 [.inr 2, .inl x1, .inl x2] h (Qi res) := by
  refine Runs.of rfl (Nat.le_of_ble_eq_true rfl) ?_
  show Go M_X1_deepen 2 0 [some (.inr 2), some (.inl x1), some (.inl x2)] [] h (Qi res)
  unfold F_X1_deepen at H
  refine g_aload_n (T_X1_deepen 0 _ _ _ rfl) rfl ?_
  refine g_iload_n (T_X1_deepen 1 _ _ _ rfl) rfl ?_
  obtain ⟨y2, h1, hq, H⟩ := bd_some H
  refine g_callVi (M' := M_X1_isTold) (c := 1) (av := [.inl x1]) (st := []) (T_X1_deepen 2 _ _ _ rfl) ml_X1_41 cb_X1_isTold rfl rfl (Nat.le_of_ble_eq_true rfl) (by omega) (R_X1_isTold N _ _ _ hq) ?_
  refine g_if_eq (tgt := 28) (T_X1_deepen 3 _ _ _ rfl) (by decide) (fun cc => ?_) (fun cc => ?_)
  · replace H := ite_p cc H
    refine g_weak [true, true, false] ?_
    exact R_J_X1_deepen_28 N   _ _ _ H
  · replace H := ite_n cc H
    refine g_aload_n (T_X1_deepen 4 _ _ _ rfl) rfl ?_
    refine g_getR (c := 1) (r := 6) (T_X1_deepen 5 _ _ _ rfl) fl_X1_21 rfl (nR rfl) rfl (by decide) ?_
    refine g_iload_n (T_X1_deepen 6 _ _ _ rfl) rfl ?_
    refine g_sipush (T_X1_deepen 7 _ _ _ rfl) (by decide) ?_
    refine g_aload_n (T_X1_deepen 8 _ _ _ rfl) rfl ?_
    refine g_getR (c := 1) (r := 6) (T_X1_deepen 9 _ _ _ rfl) fl_X1_21 rfl (nR rfl) rfl (by decide) ?_
    refine g_iload_n (T_X1_deepen 10 _ _ _ rfl) rfl ?_
    obtain ⟨hg, H⟩ := grd_some H
    refine g_iald (c := 5) (T_X1_deepen 11 _ _ _ rfl) rfl hg ?_
    refine g_iload_n (T_X1_deepen 12 _ _ _ rfl) rfl ?_
    refine g_iadd (T_X1_deepen 13 _ _ _ rfl) ?_
    refine g_min (st := [.inl x1, .inr 6]) (T_X1_deepen 14 _ _ _ rfl) ml_X1_45 wmin (Nat.le_of_ble_eq_true rfl) (by omega) ?_
    obtain ⟨hg, H⟩ := grd_some H
    refine g_iast (c := 5) (T_X1_deepen 15 _ _ _ rfl) rfl hg ?_
    refine g_bndH H fun h3 H => ?_
    refine g_weak [true, true, false] ?_
    exact R_J_X1_deepen_28 N   _ _ _ H
def F_X11_pour (N : Nat) (x1 : Int) (x2 : Int) (h : Hp) : Option (Int × Hp) :=
  bd (F_X1_isTold N x1 h) fun y2 h1 =>
  if y2 = 0 then
    some ((-1), h1)
  else
  bd (F_X11_isWithin N x2 0 999 h1) fun y4 h3 =>
  if y4 = 0 then
    some ((-1), h3)
  else
  bd (F_X1_deepen N x1 x2 h3) fun y6 h5 =>
  some (y6, h5)
set_option maxRecDepth 100000 in
set_option maxHeartbeats 4000000 in
theorem R_X11_pour (N : Nat) (x1 : Int) (x2 : Int) (h : Hp) (res : Int × Hp) (H : F_X11_pour N x1 x2 h = some res) : Runs M_X11_pour 3 [.inr 1, .inl x1, .inl x2] h (Qi res) := by
  refine Runs.of rfl (Nat.le_of_ble_eq_true rfl) ?_
  show Go M_X11_pour 3 0 [some (.inr 1), some (.inl x1), some (.inl x2)] [] h (Qi res)
  unfold F_X11_pour at H
  refine g_aload_n (T_X11_pour 0 _ _ _ rfl) rfl ?_
  refine g_getR (c := 0) (r := 2) (T_X11_pour 1 _ _ _ rfl) fl_X11_28 rfl (nR rfl) rfl (by decide) ?_
  refine g_iload_n (T_X11_pour 2 _ _ _ rfl) rfl ?_
  obtain ⟨y2, h1, hq, H⟩ := bd_some H
  refine g_callVi (M' := M_X1_isTold) (c := 1) (av := [.inl x1]) (st := []) (T_X11_pour 3 _ _ _ rfl) ml_X11_112 cb_X1_isTold rfl rfl (Nat.le_of_ble_eq_true rfl) (by omega) (R_X1_isTold N _ _ _ hq) ?_
  refine g_if_eq (tgt := 22) (T_X11_pour 4 _ _ _ rfl) (by decide) (fun cc => ?_) (fun cc => ?_)
  · replace H := ite_p cc H
    refine g_iconst (T_X11_pour 10 _ _ _ rfl) ⟨by decide, by decide⟩ ?_
    exact g_iret (T_X11_pour 11 _ _ _ rfl) rfl (qi_of H)
  · replace H := ite_n cc H
    refine g_iload_n (T_X11_pour 5 _ _ _ rfl) rfl ?_
    refine g_iconst (T_X11_pour 6 _ _ _ rfl) ⟨by decide, by decide⟩ ?_
    refine g_sipush (T_X11_pour 7 _ _ _ rfl) (by decide) ?_
    obtain ⟨y4, h3, hq, H⟩ := bd_some H
    refine g_callSi (M' := M_X11_isWithin) (av := [.inl x2, .inl 0, .inl 999]) (st := []) (T_X11_pour 8 _ _ _ rfl) ml_X11_96 cb_X11_isWithin rfl (Nat.le_of_ble_eq_true rfl) (by omega) (R_X11_isWithin N _ _ _ _ _ hq) ?_
    refine g_if_ne (tgt := 24) (T_X11_pour 9 _ _ _ rfl) (by decide) (fun cc => ?_) (fun cc => ?_)
    · replace H := ite_n cc H
      refine g_aload_n (T_X11_pour 12 _ _ _ rfl) rfl ?_
      refine g_getR (c := 0) (r := 2) (T_X11_pour 13 _ _ _ rfl) fl_X11_28 rfl (nR rfl) rfl (by decide) ?_
      refine g_iload_n (T_X11_pour 14 _ _ _ rfl) rfl ?_
      refine g_iload_n (T_X11_pour 15 _ _ _ rfl) rfl ?_
      obtain ⟨y6, h5, hq, H⟩ := bd_some H
      refine g_callVi (M' := M_X1_deepen) (c := 1) (av := [.inl x1, .inl x2]) (st := []) (T_X11_pour 16 _ _ _ rfl) ml_X11_116 cb_X1_deepen rfl rfl (Nat.le_of_ble_eq_true rfl) (by omega) (R_X1_deepen N _ _ _ _ hq) ?_
      exact g_iret (T_X11_pour 17 _ _ _ rfl) rfl (qi_of H)
    · replace H := ite_p cc H
      refine g_iconst (T_X11_pour 10 _ _ _ rfl) ⟨by decide, by decide⟩ ?_
      exact g_iret (T_X11_pour 11 _ _ _ rfl) rfl (qi_of H)
def F_X10_hasRoomFor (N : Nat) (x1 : Int) (h : Hp) : Option (Int × Hp) :=
  if 260 < (w32 ((h 41 1) + x1)) then
    some (0, h)
  else
  some (1, h)
set_option maxRecDepth 100000 in
set_option maxHeartbeats 4000000 in
theorem R_X10_hasRoomFor (N : Nat) (x1 : Int) (h : Hp) (res : Int × Hp) (H : F_X10_hasRoomFor N x1 h = some res) : Runs M_X10_hasRoomFor 1 [.inr 42, .inl x1] h (Qi res) := by
  refine Runs.of rfl (Nat.le_of_ble_eq_true rfl) ?_
  show Go M_X10_hasRoomFor 1 0 [some (.inr 42), some (.inl x1)] [] h (Qi res)
  unfold F_X10_hasRoomFor at H
  refine g_aload_n (T_X10_hasRoomFor 0 _ _ _ rfl) rfl ?_
  refine g_getI (c := 41) (T_X10_hasRoomFor 1 _ _ _ rfl) fl_X10_15 rfl (Or.inl rfl) ?_
  refine g_iload_n (T_X10_hasRoomFor 2 _ _ _ rfl) rfl ?_
  refine g_iadd (T_X10_hasRoomFor 3 _ _ _ rfl) ?_
  refine g_sipush (T_X10_hasRoomFor 4 _ _ _ rfl) (by decide) ?_
  refine g_icmp_gt (tgt := 16) (T_X10_hasRoomFor 5 _ _ _ rfl) (by decide) (fun cc => ?_) (fun cc => ?_)
  · replace H := ite_p cc H
    refine g_iconst (T_X10_hasRoomFor 8 _ _ _ rfl) ⟨by decide, by decide⟩ ?_
    exact g_zret (T_X10_hasRoomFor 9 _ _ _ rfl) rfl (by decide) (qi_of H)
  · replace H := ite_n cc H
    refine g_iconst (T_X10_hasRoomFor 6 _ _ _ rfl) ⟨by decide, by decide⟩ ?_
    refine g_goto (tgt := 17) (T_X10_hasRoomFor 7 _ _ _ rfl) (by decide) ?_
    exact g_zret (T_X10_hasRoomFor 9 _ _ _ rfl) rfl (by decide) (qi_of H)
def J_X10_addWord_43 (N : Nat) (k3 : Int → Int → Hp → Option (Hp)) (x1 : Int) (x2 : Int) (h : Hp) : Option (Hp) :=
  bnd (w32 (x2 + (-8))) fun y1 =>
  k3 x1 y1 h
set_option maxRecDepth 100000 in
set_option maxHeartbeats 4000000 in
theorem R_J_X10_addWord_43 (N : Nat) (k3 : Int → Int → Hp → Option (Hp)) (hk3 : ∀ (x1 : Int) (x2 : Int) (h : Hp) (res : Hp), k3 x1 x2 h = some res → Go M_X10_addWord 1 3 [some (.inr 42), some (.inl x1), some (.inl x2)] [] h (Qv res)) (x1 : Int) (x2 : Int) (h : Hp) (res : Hp) (H : J_X10_addWord_43 N k3 x1 x2 h = some res) : Go M_X10_addWord 1 43 [some (.inr 42), some (.inl x1), some (.inl x2)] [] h (Qv res) := by
  unfold J_X10_addWord_43 at H
  refine g_iincB (T_X10_addWord 24 _ _ _ rfl) rfl (by decide) H fun y1 H => ?_
  refine g_goto (tgt := 3) (T_X10_addWord 25 _ _ _ rfl) (by decide) ?_
  refine g_weak [true, true, true] ?_
  exact hk3 _ _ _ _ H
def L_X10_addWord_3 (N : Nat) : Nat → Int → Int → Hp → Option (Hp)
  | 0, _, _, _ => none
  | n + 1, x1, x2, h =>
    if x2 < 0 then
      some h
    else
    if 260 ≤ (h 41 1) then
      J_X10_addWord_43 N (L_X10_addWord_3 N n) x1 x2 h
    else
    grd (0 ≤ (h 41 1) ∧ (h 41 1) < 260) <|
    bnd (hw h 42 (h 41 1).toNat (iand (iushr x1 x2) 255)) fun h1 =>
    bnd (hw h1 41 1 (w32 ((h1 41 1) + 1))) fun h2 =>
    J_X10_addWord_43 N (L_X10_addWord_3 N n) x1 x2 h2
set_option maxRecDepth 100000 in
set_option maxHeartbeats 4000000 in
theorem R_L_X10_addWord_3 (N : Nat) : ∀ (n : Nat) (x1 : Int) (x2 : Int) (h : Hp) (res : Hp), L_X10_addWord_3 N n x1 x2 h = some res → Go M_X10_addWord 1 3 [some (.inr 42), some (.inl x1), some (.inl x2)] [] h (Qv res)
  | 0, _, _, _, _, H => by cases H
  | n + 1, x1, x2, h, res, H => by
    have ih := R_L_X10_addWord_3 N n
    simp only [L_X10_addWord_3] at H
    refine g_iload_n (T_X10_addWord 2 _ _ _ rfl) rfl ?_
    refine g_if_lt (tgt := 49) (T_X10_addWord 3 _ _ _ rfl) (by decide) (fun cc => ?_) (fun cc => ?_)
    · replace H := ite_p cc H
      exact g_vret (T_X10_addWord 26 _ _ _ rfl) rfl (qv_of H)
    · replace H := ite_n cc H
      refine g_aload_n (T_X10_addWord 4 _ _ _ rfl) rfl ?_
      refine g_getI (c := 41) (T_X10_addWord 5 _ _ _ rfl) fl_X10_15 rfl (Or.inl rfl) ?_
      refine g_sipush (T_X10_addWord 6 _ _ _ rfl) (by decide) ?_
      refine g_icmp_ge (tgt := 43) (T_X10_addWord 7 _ _ _ rfl) (by decide) (fun cc => ?_) (fun cc => ?_)
      · replace H := ite_p cc H
        refine g_weak [true, true, true] ?_
        exact R_J_X10_addWord_43 N (L_X10_addWord_3 N n) ih _ _ _ _ H
      · replace H := ite_n cc H
        refine g_aload_n (T_X10_addWord 8 _ _ _ rfl) rfl ?_
        refine g_getR (c := 41) (r := 43) (T_X10_addWord 9 _ _ _ rfl) fl_X10_9 rfl (nR rfl) rfl (by decide) ?_
        refine g_aload_n (T_X10_addWord 10 _ _ _ rfl) rfl ?_
        refine g_getI (c := 41) (T_X10_addWord 11 _ _ _ rfl) fl_X10_15 rfl (Or.inl rfl) ?_
        refine g_iload_n (T_X10_addWord 12 _ _ _ rfl) rfl ?_
        refine g_iload_n (T_X10_addWord 13 _ _ _ rfl) rfl ?_
        refine g_iushr (T_X10_addWord 14 _ _ _ rfl) ?_
        refine g_sipush (T_X10_addWord 15 _ _ _ rfl) (by decide) ?_
        refine g_iand (T_X10_addWord 16 _ _ _ rfl) ?_
        obtain ⟨hg, H⟩ := grd_some H
        refine g_iast (c := 42) (T_X10_addWord 17 _ _ _ rfl) rfl hg ?_
        refine g_bndH H fun h1 H => ?_
        refine g_aload_n (T_X10_addWord 18 _ _ _ rfl) rfl ?_
        refine g_dup (T_X10_addWord 19 _ _ _ rfl) ?_
        refine g_getI (c := 41) (T_X10_addWord 20 _ _ _ rfl) fl_X10_15 rfl (Or.inl rfl) ?_
        refine g_iconst (T_X10_addWord 21 _ _ _ rfl) ⟨by decide, by decide⟩ ?_
        refine g_iadd (T_X10_addWord 22 _ _ _ rfl) ?_
        refine g_put (c := 41) (T_X10_addWord 23 _ _ _ rfl) fl_X10_15 rfl (Or.inl rfl) ?_
        refine g_bndH H fun h2 H => ?_
        refine g_weak [true, true, true] ?_
        exact R_J_X10_addWord_43 N (L_X10_addWord_3 N n) ih _ _ _ _ H
def F_X10_addWord (N : Nat) (x1 : Int) (h : Hp) : Option (Hp) :=
  L_X10_addWord_3 N  N x1 24 h
set_option maxRecDepth 100000 in
set_option maxHeartbeats 4000000 in
theorem R_X10_addWord (N : Nat) (x1 : Int) (h : Hp) (res : Hp) (H : F_X10_addWord N x1 h = some res) : Runs M_X10_addWord 1 [.inr 42, .inl x1] h (Qv res) := by
  refine Runs.of rfl (Nat.le_of_ble_eq_true rfl) ?_
  show Go M_X10_addWord 1 0 [some (.inr 42), some (.inl x1), none] [] h (Qv res)
  unfold F_X10_addWord at H
  refine g_bipush (T_X10_addWord 0 _ _ _ rfl) (by decide) ?_
  refine g_istore_n (T_X10_addWord 1 _ _ _ rfl) (by decide) ?_
  refine g_weak [true, true, true] ?_
  refine R_L_X10_addWord_3 N   _ _ _ _ _ H
def F_X10_length (N : Nat) (h : Hp) : Option (Int × Hp) :=
  some ((h 41 1), h)
set_option maxRecDepth 100000 in
set_option maxHeartbeats 4000000 in
theorem R_X10_length (N : Nat) (h : Hp) (res : Int × Hp) (H : F_X10_length N h = some res) : Runs M_X10_length 1 [.inr 42] h (Qi res) := by
  refine Runs.of rfl (Nat.le_of_ble_eq_true rfl) ?_
  show Go M_X10_length 1 0 [some (.inr 42)] [] h (Qi res)
  unfold F_X10_length at H
  refine g_aload_n (T_X10_length 0 _ _ _ rfl) rfl ?_
  refine g_getI (c := 41) (T_X10_length 1 _ _ _ rfl) fl_X10_15 rfl (Or.inl rfl) ?_
  exact g_iret (T_X10_length 2 _ _ _ rfl) rfl (qi_of H)
def F_X11_feed (N : Nat) (x1 : Int) (x2 : Int) (x3 : Int) (x4 : Int) (x5 : Int) (h : Hp) : Option (Int × Hp) :=
  bd (F_X10_hasRoomFor N 20 h) fun y2 h1 =>
  if y2 = 0 then
    some ((-1), h1)
  else
  bv (F_X10_addWord N x1 h1) fun h3 =>
  bv (F_X10_addWord N x2 h3) fun h4 =>
  bv (F_X10_addWord N x3 h4) fun h5 =>
  bv (F_X10_addWord N x4 h5) fun h6 =>
  bv (F_X10_addWord N x5 h6) fun h7 =>
  bd (F_X10_length N h7) fun y9 h8 =>
  some (y9, h8)
set_option maxRecDepth 100000 in
set_option maxHeartbeats 4000000 in
theorem R_X11_feed (N : Nat) (x1 : Int) (x2 : Int) (x3 : Int) (x4 : Int) (x5 : Int) (h : Hp) (res : Int × Hp) (H : F_X11_feed N x1 x2 x3 x4 x5 h = some res) : Runs M_X11_feed 2 [.inr 1, .inl x1, .inl x2, .inl x3, .inl x4, .inl x5] h (Qi res) := by
  refine Runs.of rfl (Nat.le_of_ble_eq_true rfl) ?_
  show Go M_X11_feed 2 0 [some (.inr 1), some (.inl x1), some (.inl x2), some (.inl x3), some (.inl x4), some (.inl x5)] [] h (Qi res)
  unfold F_X11_feed at H
  refine g_aload_n (T_X11_feed 0 _ _ _ rfl) rfl ?_
  refine g_getR (c := 0) (r := 42) (T_X11_feed 1 _ _ _ rfl) fl_X11_24 rfl (nR rfl) rfl (by decide) ?_
  refine g_bipush (T_X11_feed 2 _ _ _ rfl) (by decide) ?_
  obtain ⟨y2, h1, hq, H⟩ := bd_some H
  refine g_callVi (M' := M_X10_hasRoomFor) (c := 41) (av := [.inl 20]) (st := []) (T_X11_feed 3 _ _ _ rfl) ml_X11_120 cb_X10_hasRoomFor rfl rfl (Nat.le_of_ble_eq_true rfl) (by omega) (R_X10_hasRoomFor N _ _ _ hq) ?_
  refine g_if_ne (tgt := 14) (T_X11_feed 4 _ _ _ rfl) (by decide) (fun cc => ?_) (fun cc => ?_)
  · replace H := ite_n cc H
    refine g_aload_n (T_X11_feed 7 _ _ _ rfl) rfl ?_
    refine g_getR (c := 0) (r := 42) (T_X11_feed 8 _ _ _ rfl) fl_X11_24 rfl (nR rfl) rfl (by decide) ?_
    refine g_iload_n (T_X11_feed 9 _ _ _ rfl) rfl ?_
    obtain ⟨h3, hq, H⟩ := bv_some H
    refine g_callVv (M' := M_X10_addWord) (c := 41) (av := [.inl x1]) (st := []) (T_X11_feed 10 _ _ _ rfl) ml_X11_123 cb_X10_addWord rfl rfl (Nat.le_of_ble_eq_true rfl) (by omega) (R_X10_addWord N _ _ _ hq) ?_
    refine g_aload_n (T_X11_feed 11 _ _ _ rfl) rfl ?_
    refine g_getR (c := 0) (r := 42) (T_X11_feed 12 _ _ _ rfl) fl_X11_24 rfl (nR rfl) rfl (by decide) ?_
    refine g_iload_n (T_X11_feed 13 _ _ _ rfl) rfl ?_
    obtain ⟨h4, hq, H⟩ := bv_some H
    refine g_callVv (M' := M_X10_addWord) (c := 41) (av := [.inl x2]) (st := []) (T_X11_feed 14 _ _ _ rfl) ml_X11_123 cb_X10_addWord rfl rfl (Nat.le_of_ble_eq_true rfl) (by omega) (R_X10_addWord N _ _ _ hq) ?_
    refine g_aload_n (T_X11_feed 15 _ _ _ rfl) rfl ?_
    refine g_getR (c := 0) (r := 42) (T_X11_feed 16 _ _ _ rfl) fl_X11_24 rfl (nR rfl) rfl (by decide) ?_
    refine g_iload_n (T_X11_feed 17 _ _ _ rfl) rfl ?_
    obtain ⟨h5, hq, H⟩ := bv_some H
    refine g_callVv (M' := M_X10_addWord) (c := 41) (av := [.inl x3]) (st := []) (T_X11_feed 18 _ _ _ rfl) ml_X11_123 cb_X10_addWord rfl rfl (Nat.le_of_ble_eq_true rfl) (by omega) (R_X10_addWord N _ _ _ hq) ?_
    refine g_aload_n (T_X11_feed 19 _ _ _ rfl) rfl ?_
    refine g_getR (c := 0) (r := 42) (T_X11_feed 20 _ _ _ rfl) fl_X11_24 rfl (nR rfl) rfl (by decide) ?_
    refine g_iload (T_X11_feed 21 _ _ _ rfl) rfl ?_
    obtain ⟨h6, hq, H⟩ := bv_some H
    refine g_callVv (M' := M_X10_addWord) (c := 41) (av := [.inl x4]) (st := []) (T_X11_feed 22 _ _ _ rfl) ml_X11_123 cb_X10_addWord rfl rfl (Nat.le_of_ble_eq_true rfl) (by omega) (R_X10_addWord N _ _ _ hq) ?_
    refine g_aload_n (T_X11_feed 23 _ _ _ rfl) rfl ?_
    refine g_getR (c := 0) (r := 42) (T_X11_feed 24 _ _ _ rfl) fl_X11_24 rfl (nR rfl) rfl (by decide) ?_
    refine g_iload (T_X11_feed 25 _ _ _ rfl) rfl ?_
    obtain ⟨h7, hq, H⟩ := bv_some H
    refine g_callVv (M' := M_X10_addWord) (c := 41) (av := [.inl x5]) (st := []) (T_X11_feed 26 _ _ _ rfl) ml_X11_123 cb_X10_addWord rfl rfl (Nat.le_of_ble_eq_true rfl) (by omega) (R_X10_addWord N _ _ _ hq) ?_
    refine g_aload_n (T_X11_feed 27 _ _ _ rfl) rfl ?_
    refine g_getR (c := 0) (r := 42) (T_X11_feed 28 _ _ _ rfl) fl_X11_24 rfl (nR rfl) rfl (by decide) ?_
    obtain ⟨y9, h8, hq, H⟩ := bd_some H
    refine g_callVi (M' := M_X10_length) (c := 41) (av := []) (st := []) (T_X11_feed 29 _ _ _ rfl) ml_X11_126 cb_X10_length rfl rfl (Nat.le_of_ble_eq_true rfl) (by omega) (R_X10_length N _ _ hq) ?_
    exact g_iret (T_X11_feed 30 _ _ _ rfl) rfl (qi_of H)
  · replace H := ite_p cc H
    refine g_iconst (T_X11_feed 5 _ _ _ rfl) ⟨by decide, by decide⟩ ?_
    exact g_iret (T_X11_feed 6 _ _ _ rfl) rfl (qi_of H)
def F_X10_holds (N : Nat) (x1 : Int) (h : Hp) : Option (Int × Hp) :=
  if (h 41 1) < x1 then
    some (0, h)
  else
  some (1, h)
set_option maxRecDepth 100000 in
set_option maxHeartbeats 4000000 in
theorem R_X10_holds (N : Nat) (x1 : Int) (h : Hp) (res : Int × Hp) (H : F_X10_holds N x1 h = some res) : Runs M_X10_holds 1 [.inr 42, .inl x1] h (Qi res) := by
  refine Runs.of rfl (Nat.le_of_ble_eq_true rfl) ?_
  show Go M_X10_holds 1 0 [some (.inr 42), some (.inl x1)] [] h (Qi res)
  unfold F_X10_holds at H
  refine g_iload_n (T_X10_holds 0 _ _ _ rfl) rfl ?_
  refine g_aload_n (T_X10_holds 1 _ _ _ rfl) rfl ?_
  refine g_getI (c := 41) (T_X10_holds 2 _ _ _ rfl) fl_X10_15 rfl (Or.inl rfl) ?_
  refine g_icmp_gt (tgt := 12) (T_X10_holds 3 _ _ _ rfl) (by decide) (fun cc => ?_) (fun cc => ?_)
  · replace H := ite_p cc H
    refine g_iconst (T_X10_holds 6 _ _ _ rfl) ⟨by decide, by decide⟩ ?_
    exact g_zret (T_X10_holds 7 _ _ _ rfl) rfl (by decide) (qi_of H)
  · replace H := ite_n cc H
    refine g_iconst (T_X10_holds 4 _ _ _ rfl) ⟨by decide, by decide⟩ ?_
    refine g_goto (tgt := 13) (T_X10_holds 5 _ _ _ rfl) (by decide) ?_
    exact g_zret (T_X10_holds 7 _ _ _ rfl) rfl (by decide) (qi_of H)
def F_X10_at (N : Nat) (x1 : Int) (h : Hp) : Option (Int × Hp) :=
  if x1 < 0 then
    some ((-1), h)
  else
  if (h 41 1) ≤ x1 then
    some ((-1), h)
  else
  grd (0 ≤ x1 ∧ x1 < 260) <|
  some ((h 42 x1.toNat), h)
set_option maxRecDepth 100000 in
set_option maxHeartbeats 4000000 in
theorem R_X10_at (N : Nat) (x1 : Int) (h : Hp) (res : Int × Hp) (H : F_X10_at N x1 h = some res) : Runs M_X10_at 1 [.inr 42, .inl x1] h (Qi res) := by
  refine Runs.of rfl (Nat.le_of_ble_eq_true rfl) ?_
  show Go M_X10_at 1 0 [some (.inr 42), some (.inl x1)] [] h (Qi res)
  unfold F_X10_at at H
  refine g_iload_n (T_X10_at 0 _ _ _ rfl) rfl ?_
  refine g_if_lt (tgt := 21) (T_X10_at 1 _ _ _ rfl) (by decide) (fun cc => ?_) (fun cc => ?_)
  · replace H := ite_p cc H
    refine g_iconst (T_X10_at 11 _ _ _ rfl) ⟨by decide, by decide⟩ ?_
    exact g_iret (T_X10_at 12 _ _ _ rfl) rfl (qi_of H)
  · replace H := ite_n cc H
    refine g_iload_n (T_X10_at 2 _ _ _ rfl) rfl ?_
    refine g_aload_n (T_X10_at 3 _ _ _ rfl) rfl ?_
    refine g_getI (c := 41) (T_X10_at 4 _ _ _ rfl) fl_X10_15 rfl (Or.inl rfl) ?_
    refine g_icmp_ge (tgt := 21) (T_X10_at 5 _ _ _ rfl) (by decide) (fun cc => ?_) (fun cc => ?_)
    · replace H := ite_p cc H
      refine g_iconst (T_X10_at 11 _ _ _ rfl) ⟨by decide, by decide⟩ ?_
      exact g_iret (T_X10_at 12 _ _ _ rfl) rfl (qi_of H)
    · replace H := ite_n cc H
      refine g_aload_n (T_X10_at 6 _ _ _ rfl) rfl ?_
      refine g_getR (c := 41) (r := 43) (T_X10_at 7 _ _ _ rfl) fl_X10_9 rfl (nR rfl) rfl (by decide) ?_
      refine g_iload_n (T_X10_at 8 _ _ _ rfl) rfl ?_
      obtain ⟨hg, H⟩ := grd_some H
      refine g_iald (c := 42) (T_X10_at 9 _ _ _ rfl) rfl hg ?_
      refine g_goto (tgt := 22) (T_X10_at 10 _ _ _ rfl) (by decide) ?_
      exact g_iret (T_X10_at 12 _ _ _ rfl) rfl (qi_of H)
def J_X10_open_32 (N : Nat) (s1 : Int) (h : Hp) : Option (Hp) :=
  bnd (hw h 41 4 s1) fun h1 =>
  some h1
set_option maxRecDepth 100000 in
set_option maxHeartbeats 4000000 in
theorem R_J_X10_open_32 (N : Nat) (s1 : Int) (h : Hp) (res : Hp) (H : J_X10_open_32 N s1 h = some res) : Go M_X10_open 2 32 [none, none] [.inl s1, .inr 42] h (Qv res) := by
  unfold J_X10_open_32 at H
  refine g_put (c := 41) (T_X10_open 18 _ _ _ rfl) fl_X10_36 rfl (Or.inl rfl) ?_
  refine g_bndH H fun h1 H => ?_
  exact g_vret (T_X10_open 19 _ _ _ rfl) rfl (qv_of H)
def F_X10_open (N : Nat) (x1 : Int) (h : Hp) : Option (Hp) :=
  bnd (hw h 41 2 0) fun h1 =>
  bnd (hw h1 41 3 x1) fun h2 =>
  bnd (hw h2 41 5 0) fun h3 =>
  if (h3 41 3) ≤ 0 then
    J_X10_open_32 N  (-1) h3
  else
  bd (F_X10_at N 0 h3) fun y5 h4 =>
  J_X10_open_32 N  y5 h4
set_option maxRecDepth 100000 in
set_option maxHeartbeats 4000000 in
theorem R_X10_open (N : Nat) (x1 : Int) (h : Hp) (res : Hp) (H : F_X10_open N x1 h = some res) : Runs M_X10_open 2 [.inr 42, .inl x1] h (Qv res) := by
  refine Runs.of rfl (Nat.le_of_ble_eq_true rfl) ?_
  show Go M_X10_open 2 0 [some (.inr 42), some (.inl x1)] [] h (Qv res)
  unfold F_X10_open at H
  refine g_aload_n (T_X10_open 0 _ _ _ rfl) rfl ?_
  refine g_iconst (T_X10_open 1 _ _ _ rfl) ⟨by decide, by decide⟩ ?_
  refine g_put (c := 41) (T_X10_open 2 _ _ _ rfl) fl_X10_27 rfl (Or.inl rfl) ?_
  refine g_bndH H fun h1 H => ?_
  refine g_aload_n (T_X10_open 3 _ _ _ rfl) rfl ?_
  refine g_iload_n (T_X10_open 4 _ _ _ rfl) rfl ?_
  refine g_put (c := 41) (T_X10_open 5 _ _ _ rfl) fl_X10_30 rfl (Or.inl rfl) ?_
  refine g_bndH H fun h2 H => ?_
  refine g_aload_n (T_X10_open 6 _ _ _ rfl) rfl ?_
  refine g_iconst (T_X10_open 7 _ _ _ rfl) ⟨by decide, by decide⟩ ?_
  refine g_put (c := 41) (T_X10_open 8 _ _ _ rfl) fl_X10_33 rfl (Or.inl rfl) ?_
  refine g_bndH H fun h3 H => ?_
  refine g_aload_n (T_X10_open 9 _ _ _ rfl) rfl ?_
  refine g_aload_n (T_X10_open 10 _ _ _ rfl) rfl ?_
  refine g_getI (c := 41) (T_X10_open 11 _ _ _ rfl) fl_X10_30 rfl (Or.inl rfl) ?_
  refine g_if_le (tgt := 31) (T_X10_open 12 _ _ _ rfl) (by decide) (fun cc => ?_) (fun cc => ?_)
  · replace H := ite_p cc H
    refine g_iconst (T_X10_open 17 _ _ _ rfl) ⟨by decide, by decide⟩ ?_
    refine g_weak [false, false] ?_
    exact R_J_X10_open_32 N   _ _ _ H
  · replace H := ite_n cc H
    refine g_aload_n (T_X10_open 13 _ _ _ rfl) rfl ?_
    refine g_iconst (T_X10_open 14 _ _ _ rfl) ⟨by decide, by decide⟩ ?_
    obtain ⟨y5, h4, hq, H⟩ := bd_some H
    refine g_callVi (M' := M_X10_at) (c := 41) (av := [.inl 0]) (st := [.inr 42]) (T_X10_open 15 _ _ _ rfl) ml_X10_19 cb_X10_at rfl rfl (Nat.le_of_ble_eq_true rfl) (by omega) (R_X10_at N _ _ _ hq) ?_
    refine g_goto (tgt := 32) (T_X10_open 16 _ _ _ rfl) (by decide) ?_
    refine g_weak [false, false] ?_
    exact R_J_X10_open_32 N   _ _ _ H
def F_X2_clear (N : Nat) (h : Hp) : Option (Hp) :=
  bnd (hw h 44 4 0) fun h1 =>
  bnd (hw h1 44 7 0) fun h2 =>
  some h2
set_option maxRecDepth 100000 in
set_option maxHeartbeats 4000000 in
theorem R_X2_clear (N : Nat) (h : Hp) (res : Hp) (H : F_X2_clear N h = some res) : Runs M_X2_clear 1 [.inr 45] h (Qv res) := by
  refine Runs.of rfl (Nat.le_of_ble_eq_true rfl) ?_
  show Go M_X2_clear 1 0 [some (.inr 45)] [] h (Qv res)
  unfold F_X2_clear at H
  refine g_aload_n (T_X2_clear 0 _ _ _ rfl) rfl ?_
  refine g_iconst (T_X2_clear 1 _ _ _ rfl) ⟨by decide, by decide⟩ ?_
  refine g_put (c := 44) (T_X2_clear 2 _ _ _ rfl) fl_X2_36 rfl (Or.inl rfl) ?_
  refine g_bndH H fun h1 H => ?_
  refine g_aload_n (T_X2_clear 3 _ _ _ rfl) rfl ?_
  refine g_iconst (T_X2_clear 4 _ _ _ rfl) ⟨by decide, by decide⟩ ?_
  refine g_put (c := 44) (T_X2_clear 5 _ _ _ rfl) fl_X2_40 rfl (Or.inl rfl) ?_
  refine g_bndH H fun h2 H => ?_
  exact g_vret (T_X2_clear 6 _ _ _ rfl) rfl (qv_of H)
def F_X10_isSound (N : Nat) (h : Hp) : Option (Int × Hp) :=
  if (h 41 5) = 0 then
    some (1, h)
  else
  some (0, h)
set_option maxRecDepth 100000 in
set_option maxHeartbeats 4000000 in
theorem R_X10_isSound (N : Nat) (h : Hp) (res : Int × Hp) (H : F_X10_isSound N h = some res) : Runs M_X10_isSound 1 [.inr 42] h (Qi res) := by
  refine Runs.of rfl (Nat.le_of_ble_eq_true rfl) ?_
  show Go M_X10_isSound 1 0 [some (.inr 42)] [] h (Qi res)
  unfold F_X10_isSound at H
  refine g_aload_n (T_X10_isSound 0 _ _ _ rfl) rfl ?_
  refine g_getI (c := 41) (T_X10_isSound 1 _ _ _ rfl) fl_X10_33 rfl (Or.inl rfl) ?_
  refine g_if_ne (tgt := 11) (T_X10_isSound 2 _ _ _ rfl) (by decide) (fun cc => ?_) (fun cc => ?_)
  · replace H := ite_n cc H
    refine g_iconst (T_X10_isSound 5 _ _ _ rfl) ⟨by decide, by decide⟩ ?_
    exact g_zret (T_X10_isSound 6 _ _ _ rfl) rfl (by decide) (qi_of H)
  · replace H := ite_p cc H
    refine g_iconst (T_X10_isSound 3 _ _ _ rfl) ⟨by decide, by decide⟩ ?_
    refine g_goto (tgt := 12) (T_X10_isSound 4 _ _ _ rfl) (by decide) ?_
    exact g_zret (T_X10_isSound 6 _ _ _ rfl) rfl (by decide) (qi_of H)
def F_X10_fault (N : Nat) (h : Hp) : Option (Int × Hp) :=
  some ((h 41 5), h)
set_option maxRecDepth 100000 in
set_option maxHeartbeats 4000000 in
theorem R_X10_fault (N : Nat) (h : Hp) (res : Int × Hp) (H : F_X10_fault N h = some res) : Runs M_X10_fault 1 [.inr 42] h (Qi res) := by
  refine Runs.of rfl (Nat.le_of_ble_eq_true rfl) ?_
  show Go M_X10_fault 1 0 [some (.inr 42)] [] h (Qi res)
  unfold F_X10_fault at H
  refine g_aload_n (T_X10_fault 0 _ _ _ rfl) rfl ?_
  refine g_getI (c := 41) (T_X10_fault 1 _ _ _ rfl) fl_X10_33 rfl (Or.inl rfl) ?_
  exact g_iret (T_X10_fault 2 _ _ _ rfl) rfl (qi_of H)
def F_X2_clauses (N : Nat) (h : Hp) : Option (Int × Hp) :=
  some ((h 44 4), h)
set_option maxRecDepth 100000 in
set_option maxHeartbeats 4000000 in
theorem R_X2_clauses (N : Nat) (h : Hp) (res : Int × Hp) (H : F_X2_clauses N h = some res) : Runs M_X2_clauses 1 [.inr 45] h (Qi res) := by
  refine Runs.of rfl (Nat.le_of_ble_eq_true rfl) ?_
  show Go M_X2_clauses 1 0 [some (.inr 45)] [] h (Qi res)
  unfold F_X2_clauses at H
  refine g_aload_n (T_X2_clauses 0 _ _ _ rfl) rfl ?_
  refine g_getI (c := 44) (T_X2_clauses 1 _ _ _ rfl) fl_X2_36 rfl (Or.inl rfl) ?_
  exact g_iret (T_X2_clauses 2 _ _ _ rfl) rfl (qi_of H)
def F_X10_sign (N : Nat) (h : Hp) : Option (Int × Hp) :=
  some ((h 41 4), h)
set_option maxRecDepth 100000 in
set_option maxHeartbeats 4000000 in
theorem R_X10_sign (N : Nat) (h : Hp) (res : Int × Hp) (H : F_X10_sign N h = some res) : Runs M_X10_sign 1 [.inr 42] h (Qi res) := by
  refine Runs.of rfl (Nat.le_of_ble_eq_true rfl) ?_
  show Go M_X10_sign 1 0 [some (.inr 42)] [] h (Qi res)
  unfold F_X10_sign at H
  refine g_aload_n (T_X10_sign 0 _ _ _ rfl) rfl ?_
  refine g_getI (c := 41) (T_X10_sign 1 _ _ _ rfl) fl_X10_36 rfl (Or.inl rfl) ?_
  exact g_iret (T_X10_sign 2 _ _ _ rfl) rfl (qi_of H)
def J_X10_step_53 (N : Nat) (s1 : Int) (h : Hp) : Option (Hp) :=
  bnd (hw h 41 4 s1) fun h1 =>
  some h1
set_option maxRecDepth 100000 in
set_option maxHeartbeats 4000000 in
theorem R_J_X10_step_53 (N : Nat) (s1 : Int) (h : Hp) (res : Hp) (H : J_X10_step_53 N s1 h = some res) : Go M_X10_step 1 53 [none] [.inl s1, .inr 42] h (Qv res) := by
  unfold J_X10_step_53 at H
  refine g_put (c := 41) (T_X10_step 27 _ _ _ rfl) fl_X10_36 rfl (Or.inl rfl) ?_
  refine g_bndH H fun h1 H => ?_
  exact g_vret (T_X10_step 28 _ _ _ rfl) rfl (qv_of H)
def F_X10_step (N : Nat) (h : Hp) : Option (Hp) :=
  bnd (hw h 41 2 (w32 ((h 41 2) + 1))) fun h1 =>
  if (h1 41 2) < 0 then
    J_X10_step_53 N  (-1) h1
  else
  if (h1 41 3) ≤ (h1 41 2) then
    J_X10_step_53 N  (-1) h1
  else
  if (h1 41 1) ≤ (h1 41 2) then
    J_X10_step_53 N  (-1) h1
  else
  grd (0 ≤ (h1 41 2) ∧ (h1 41 2) < 260) <|
  J_X10_step_53 N  (h1 42 (h1 41 2).toNat) h1
set_option maxRecDepth 100000 in
set_option maxHeartbeats 4000000 in
theorem R_X10_step (N : Nat) (h : Hp) (res : Hp) (H : F_X10_step N h = some res) : Runs M_X10_step 1 [.inr 42] h (Qv res) := by
  refine Runs.of rfl (Nat.le_of_ble_eq_true rfl) ?_
  show Go M_X10_step 1 0 [some (.inr 42)] [] h (Qv res)
  unfold F_X10_step at H
  refine g_aload_n (T_X10_step 0 _ _ _ rfl) rfl ?_
  refine g_dup (T_X10_step 1 _ _ _ rfl) ?_
  refine g_getI (c := 41) (T_X10_step 2 _ _ _ rfl) fl_X10_27 rfl (Or.inl rfl) ?_
  refine g_iconst (T_X10_step 3 _ _ _ rfl) ⟨by decide, by decide⟩ ?_
  refine g_iadd (T_X10_step 4 _ _ _ rfl) ?_
  refine g_put (c := 41) (T_X10_step 5 _ _ _ rfl) fl_X10_27 rfl (Or.inl rfl) ?_
  refine g_bndH H fun h1 H => ?_
  refine g_aload_n (T_X10_step 6 _ _ _ rfl) rfl ?_
  refine g_aload_n (T_X10_step 7 _ _ _ rfl) rfl ?_
  refine g_getI (c := 41) (T_X10_step 8 _ _ _ rfl) fl_X10_27 rfl (Or.inl rfl) ?_
  refine g_if_lt (tgt := 52) (T_X10_step 9 _ _ _ rfl) (by decide) (fun cc => ?_) (fun cc => ?_)
  · replace H := ite_p cc H
    refine g_iconst (T_X10_step 26 _ _ _ rfl) ⟨by decide, by decide⟩ ?_
    refine g_weak [false] ?_
    exact R_J_X10_step_53 N   _ _ _ H
  · replace H := ite_n cc H
    refine g_aload_n (T_X10_step 10 _ _ _ rfl) rfl ?_
    refine g_getI (c := 41) (T_X10_step 11 _ _ _ rfl) fl_X10_27 rfl (Or.inl rfl) ?_
    refine g_aload_n (T_X10_step 12 _ _ _ rfl) rfl ?_
    refine g_getI (c := 41) (T_X10_step 13 _ _ _ rfl) fl_X10_30 rfl (Or.inl rfl) ?_
    refine g_icmp_ge (tgt := 52) (T_X10_step 14 _ _ _ rfl) (by decide) (fun cc => ?_) (fun cc => ?_)
    · replace H := ite_p cc H
      refine g_iconst (T_X10_step 26 _ _ _ rfl) ⟨by decide, by decide⟩ ?_
      refine g_weak [false] ?_
      exact R_J_X10_step_53 N   _ _ _ H
    · replace H := ite_n cc H
      refine g_aload_n (T_X10_step 15 _ _ _ rfl) rfl ?_
      refine g_getI (c := 41) (T_X10_step 16 _ _ _ rfl) fl_X10_27 rfl (Or.inl rfl) ?_
      refine g_aload_n (T_X10_step 17 _ _ _ rfl) rfl ?_
      refine g_getI (c := 41) (T_X10_step 18 _ _ _ rfl) fl_X10_15 rfl (Or.inl rfl) ?_
      refine g_icmp_ge (tgt := 52) (T_X10_step 19 _ _ _ rfl) (by decide) (fun cc => ?_) (fun cc => ?_)
      · replace H := ite_p cc H
        refine g_iconst (T_X10_step 26 _ _ _ rfl) ⟨by decide, by decide⟩ ?_
        refine g_weak [false] ?_
        exact R_J_X10_step_53 N   _ _ _ H
      · replace H := ite_n cc H
        refine g_aload_n (T_X10_step 20 _ _ _ rfl) rfl ?_
        refine g_getR (c := 41) (r := 43) (T_X10_step 21 _ _ _ rfl) fl_X10_9 rfl (nR rfl) rfl (by decide) ?_
        refine g_aload_n (T_X10_step 22 _ _ _ rfl) rfl ?_
        refine g_getI (c := 41) (T_X10_step 23 _ _ _ rfl) fl_X10_27 rfl (Or.inl rfl) ?_
        obtain ⟨hg, H⟩ := grd_some H
        refine g_iald (c := 42) (T_X10_step 24 _ _ _ rfl) rfl hg ?_
        refine g_goto (tgt := 53) (T_X10_step 25 _ _ _ rfl) (by decide) ?_
        refine g_weak [false] ?_
        exact R_J_X10_step_53 N   _ _ _ H
def F_X2_length (N : Nat) (h : Hp) : Option (Int × Hp) :=
  some ((h 44 7), h)
set_option maxRecDepth 100000 in
set_option maxHeartbeats 4000000 in
theorem R_X2_length (N : Nat) (h : Hp) (res : Int × Hp) (H : F_X2_length N h = some res) : Runs M_X2_length 1 [.inr 45] h (Qi res) := by
  refine Runs.of rfl (Nat.le_of_ble_eq_true rfl) ?_
  show Go M_X2_length 1 0 [some (.inr 45)] [] h (Qi res)
  unfold F_X2_length at H
  refine g_aload_n (T_X2_length 0 _ _ _ rfl) rfl ?_
  refine g_getI (c := 44) (T_X2_length 1 _ _ _ rfl) fl_X2_40 rfl (Or.inl rfl) ?_
  exact g_iret (T_X2_length 2 _ _ _ rfl) rfl (qi_of H)
def F_X10_sees (N : Nat) (x1 : Int) (h : Hp) : Option (Int × Hp) :=
  if (h 41 5) = 0 then
    if (h 41 4) = x1 then
      some (1, h)
    else
    some (0, h)
  else
  some (0, h)
set_option maxRecDepth 100000 in
set_option maxHeartbeats 4000000 in
theorem R_X10_sees (N : Nat) (x1 : Int) (h : Hp) (res : Int × Hp) (H : F_X10_sees N x1 h = some res) : Runs M_X10_sees 1 [.inr 42, .inl x1] h (Qi res) := by
  refine Runs.of rfl (Nat.le_of_ble_eq_true rfl) ?_
  show Go M_X10_sees 1 0 [some (.inr 42), some (.inl x1)] [] h (Qi res)
  unfold F_X10_sees at H
  refine g_aload_n (T_X10_sees 0 _ _ _ rfl) rfl ?_
  refine g_getI (c := 41) (T_X10_sees 1 _ _ _ rfl) fl_X10_33 rfl (Or.inl rfl) ?_
  refine g_if_ne (tgt := 19) (T_X10_sees 2 _ _ _ rfl) (by decide) (fun cc => ?_) (fun cc => ?_)
  · replace H := ite_n cc H
    refine g_iconst (T_X10_sees 9 _ _ _ rfl) ⟨by decide, by decide⟩ ?_
    exact g_zret (T_X10_sees 10 _ _ _ rfl) rfl (by decide) (qi_of H)
  · replace H := ite_p cc H
    refine g_aload_n (T_X10_sees 3 _ _ _ rfl) rfl ?_
    refine g_getI (c := 41) (T_X10_sees 4 _ _ _ rfl) fl_X10_36 rfl (Or.inl rfl) ?_
    refine g_iload_n (T_X10_sees 5 _ _ _ rfl) rfl ?_
    refine g_icmp_ne (tgt := 19) (T_X10_sees 6 _ _ _ rfl) (by decide) (fun cc => ?_) (fun cc => ?_)
    · replace H := ite_n cc H
      refine g_iconst (T_X10_sees 9 _ _ _ rfl) ⟨by decide, by decide⟩ ?_
      exact g_zret (T_X10_sees 10 _ _ _ rfl) rfl (by decide) (qi_of H)
    · replace H := ite_p cc H
      refine g_iconst (T_X10_sees 7 _ _ _ rfl) ⟨by decide, by decide⟩ ?_
      refine g_goto (tgt := 20) (T_X10_sees 8 _ _ _ rfl) (by decide) ?_
      exact g_zret (T_X10_sees 10 _ _ _ rfl) rfl (by decide) (qi_of H)
def F_X10_seesDigit (N : Nat) (h : Hp) : Option (Int × Hp) :=
  if (h 41 5) = 0 then
    if (h 41 4) < 48 then
      some (0, h)
    else
    if 57 < (h 41 4) then
      some (0, h)
    else
    some (1, h)
  else
  some (0, h)
set_option maxRecDepth 100000 in
set_option maxHeartbeats 4000000 in
theorem R_X10_seesDigit (N : Nat) (h : Hp) (res : Int × Hp) (H : F_X10_seesDigit N h = some res) : Runs M_X10_seesDigit 1 [.inr 42] h (Qi res) := by
  refine Runs.of rfl (Nat.le_of_ble_eq_true rfl) ?_
  show Go M_X10_seesDigit 1 0 [some (.inr 42)] [] h (Qi res)
  unfold F_X10_seesDigit at H
  refine g_aload_n (T_X10_seesDigit 0 _ _ _ rfl) rfl ?_
  refine g_getI (c := 41) (T_X10_seesDigit 1 _ _ _ rfl) fl_X10_33 rfl (Or.inl rfl) ?_
  refine g_if_ne (tgt := 29) (T_X10_seesDigit 2 _ _ _ rfl) (by decide) (fun cc => ?_) (fun cc => ?_)
  · replace H := ite_n cc H
    refine g_iconst (T_X10_seesDigit 13 _ _ _ rfl) ⟨by decide, by decide⟩ ?_
    exact g_zret (T_X10_seesDigit 14 _ _ _ rfl) rfl (by decide) (qi_of H)
  · replace H := ite_p cc H
    refine g_aload_n (T_X10_seesDigit 3 _ _ _ rfl) rfl ?_
    refine g_getI (c := 41) (T_X10_seesDigit 4 _ _ _ rfl) fl_X10_36 rfl (Or.inl rfl) ?_
    refine g_bipush (T_X10_seesDigit 5 _ _ _ rfl) (by decide) ?_
    refine g_icmp_lt (tgt := 29) (T_X10_seesDigit 6 _ _ _ rfl) (by decide) (fun cc => ?_) (fun cc => ?_)
    · replace H := ite_p cc H
      refine g_iconst (T_X10_seesDigit 13 _ _ _ rfl) ⟨by decide, by decide⟩ ?_
      exact g_zret (T_X10_seesDigit 14 _ _ _ rfl) rfl (by decide) (qi_of H)
    · replace H := ite_n cc H
      refine g_aload_n (T_X10_seesDigit 7 _ _ _ rfl) rfl ?_
      refine g_getI (c := 41) (T_X10_seesDigit 8 _ _ _ rfl) fl_X10_36 rfl (Or.inl rfl) ?_
      refine g_bipush (T_X10_seesDigit 9 _ _ _ rfl) (by decide) ?_
      refine g_icmp_gt (tgt := 29) (T_X10_seesDigit 10 _ _ _ rfl) (by decide) (fun cc => ?_) (fun cc => ?_)
      · replace H := ite_p cc H
        refine g_iconst (T_X10_seesDigit 13 _ _ _ rfl) ⟨by decide, by decide⟩ ?_
        exact g_zret (T_X10_seesDigit 14 _ _ _ rfl) rfl (by decide) (qi_of H)
      · replace H := ite_n cc H
        refine g_iconst (T_X10_seesDigit 11 _ _ _ rfl) ⟨by decide, by decide⟩ ?_
        refine g_goto (tgt := 30) (T_X10_seesDigit 12 _ _ _ rfl) (by decide) ?_
        exact g_zret (T_X10_seesDigit 14 _ _ _ rfl) rfl (by decide) (qi_of H)
def F_X10_isAtEnd (N : Nat) (h : Hp) : Option (Int × Hp) :=
  if (h 41 2) < (h 41 3) then
    some (0, h)
  else
  some (1, h)
set_option maxRecDepth 100000 in
set_option maxHeartbeats 4000000 in
theorem R_X10_isAtEnd (N : Nat) (h : Hp) (res : Int × Hp) (H : F_X10_isAtEnd N h = some res) : Runs M_X10_isAtEnd 1 [.inr 42] h (Qi res) := by
  refine Runs.of rfl (Nat.le_of_ble_eq_true rfl) ?_
  show Go M_X10_isAtEnd 1 0 [some (.inr 42)] [] h (Qi res)
  unfold F_X10_isAtEnd at H
  refine g_aload_n (T_X10_isAtEnd 0 _ _ _ rfl) rfl ?_
  refine g_getI (c := 41) (T_X10_isAtEnd 1 _ _ _ rfl) fl_X10_27 rfl (Or.inl rfl) ?_
  refine g_aload_n (T_X10_isAtEnd 2 _ _ _ rfl) rfl ?_
  refine g_getI (c := 41) (T_X10_isAtEnd 3 _ _ _ rfl) fl_X10_30 rfl (Or.inl rfl) ?_
  refine g_icmp_lt (tgt := 15) (T_X10_isAtEnd 4 _ _ _ rfl) (by decide) (fun cc => ?_) (fun cc => ?_)
  · replace H := ite_p cc H
    refine g_iconst (T_X10_isAtEnd 7 _ _ _ rfl) ⟨by decide, by decide⟩ ?_
    exact g_zret (T_X10_isAtEnd 8 _ _ _ rfl) rfl (by decide) (qi_of H)
  · replace H := ite_n cc H
    refine g_iconst (T_X10_isAtEnd 5 _ _ _ rfl) ⟨by decide, by decide⟩ ?_
    refine g_goto (tgt := 16) (T_X10_isAtEnd 6 _ _ _ rfl) (by decide) ?_
    exact g_zret (T_X10_isAtEnd 8 _ _ _ rfl) rfl (by decide) (qi_of H)
def F_X10_fail (N : Nat) (x1 : Int) (h : Hp) : Option (Hp) :=
  if (h 41 5) = 0 then
    bnd (hw h 41 5 (w32 ((w32 ((-1000) * x1)) - (h 41 2)))) fun h1 =>
    some h1
  else
  some h
set_option maxRecDepth 100000 in
set_option maxHeartbeats 4000000 in
theorem R_X10_fail (N : Nat) (x1 : Int) (h : Hp) (res : Hp) (H : F_X10_fail N x1 h = some res) : Runs M_X10_fail 1 [.inr 42, .inl x1] h (Qv res) := by
  refine Runs.of rfl (Nat.le_of_ble_eq_true rfl) ?_
  show Go M_X10_fail 1 0 [some (.inr 42), some (.inl x1)] [] h (Qv res)
  unfold F_X10_fail at H
  refine g_aload_n (T_X10_fail 0 _ _ _ rfl) rfl ?_
  refine g_getI (c := 41) (T_X10_fail 1 _ _ _ rfl) fl_X10_33 rfl (Or.inl rfl) ?_
  refine g_if_ne (tgt := 21) (T_X10_fail 2 _ _ _ rfl) (by decide) (fun cc => ?_) (fun cc => ?_)
  · replace H := ite_n cc H
    exact g_vret (T_X10_fail 11 _ _ _ rfl) rfl (qv_of H)
  · replace H := ite_p cc H
    refine g_aload_n (T_X10_fail 3 _ _ _ rfl) rfl ?_
    refine g_sipush (T_X10_fail 4 _ _ _ rfl) (by decide) ?_
    refine g_iload_n (T_X10_fail 5 _ _ _ rfl) rfl ?_
    refine g_imul (T_X10_fail 6 _ _ _ rfl) ?_
    refine g_aload_n (T_X10_fail 7 _ _ _ rfl) rfl ?_
    refine g_getI (c := 41) (T_X10_fail 8 _ _ _ rfl) fl_X10_27 rfl (Or.inl rfl) ?_
    refine g_isub (T_X10_fail 9 _ _ _ rfl) ?_
    refine g_put (c := 41) (T_X10_fail 10 _ _ _ rfl) fl_X10_33 rfl (Or.inl rfl) ?_
    refine g_bndH H fun h1 H => ?_
    exact g_vret (T_X10_fail 11 _ _ _ rfl) rfl (qv_of H)
def F_X2_addSign (N : Nat) (x1 : Int) (x2 : Int) (h : Hp) : Option (Hp) :=
  if 240 ≤ (h 44 7) then
    some h
  else
  grd (0 ≤ (h 44 7) ∧ (h 44 7) < 240) <|
  bnd (hw h 49 (h 44 7).toNat x1) fun h1 =>
  grd (0 ≤ (h1 44 7) ∧ (h1 44 7) < 240) <|
  bnd (hw h1 50 (h1 44 7).toNat x2) fun h2 =>
  bnd (hw h2 44 7 (w32 ((h2 44 7) + 1))) fun h3 =>
  some h3
set_option maxRecDepth 100000 in
set_option maxHeartbeats 4000000 in
theorem R_X2_addSign (N : Nat) (x1 : Int) (x2 : Int) (h : Hp) (res : Hp) (H : F_X2_addSign N x1 x2 h = some res) : Runs M_X2_addSign 1 [.inr 45, .inl x1, .inl x2] h (Qv res) := by
  refine Runs.of rfl (Nat.le_of_ble_eq_true rfl) ?_
  show Go M_X2_addSign 1 0 [some (.inr 45), some (.inl x1), some (.inl x2)] [] h (Qv res)
  unfold F_X2_addSign at H
  refine g_aload_n (T_X2_addSign 0 _ _ _ rfl) rfl ?_
  refine g_getI (c := 44) (T_X2_addSign 1 _ _ _ rfl) fl_X2_40 rfl (Or.inl rfl) ?_
  refine g_sipush (T_X2_addSign 2 _ _ _ rfl) (by decide) ?_
  refine g_icmp_ge (tgt := 40) (T_X2_addSign 3 _ _ _ rfl) (by decide) (fun cc => ?_) (fun cc => ?_)
  · replace H := ite_p cc H
    exact g_vret (T_X2_addSign 22 _ _ _ rfl) rfl (qv_of H)
  · replace H := ite_n cc H
    refine g_aload_n (T_X2_addSign 4 _ _ _ rfl) rfl ?_
    refine g_getR (c := 44) (r := 50) (T_X2_addSign 5 _ _ _ rfl) fl_X2_24 rfl (nR rfl) rfl (by decide) ?_
    refine g_aload_n (T_X2_addSign 6 _ _ _ rfl) rfl ?_
    refine g_getI (c := 44) (T_X2_addSign 7 _ _ _ rfl) fl_X2_40 rfl (Or.inl rfl) ?_
    refine g_iload_n (T_X2_addSign 8 _ _ _ rfl) rfl ?_
    obtain ⟨hg, H⟩ := grd_some H
    refine g_iast (c := 49) (T_X2_addSign 9 _ _ _ rfl) rfl hg ?_
    refine g_bndH H fun h1 H => ?_
    refine g_aload_n (T_X2_addSign 10 _ _ _ rfl) rfl ?_
    refine g_getR (c := 44) (r := 51) (T_X2_addSign 11 _ _ _ rfl) fl_X2_27 rfl (nR rfl) rfl (by decide) ?_
    refine g_aload_n (T_X2_addSign 12 _ _ _ rfl) rfl ?_
    refine g_getI (c := 44) (T_X2_addSign 13 _ _ _ rfl) fl_X2_40 rfl (Or.inl rfl) ?_
    refine g_iload_n (T_X2_addSign 14 _ _ _ rfl) rfl ?_
    obtain ⟨hg, H⟩ := grd_some H
    refine g_iast (c := 50) (T_X2_addSign 15 _ _ _ rfl) rfl hg ?_
    refine g_bndH H fun h2 H => ?_
    refine g_aload_n (T_X2_addSign 16 _ _ _ rfl) rfl ?_
    refine g_dup (T_X2_addSign 17 _ _ _ rfl) ?_
    refine g_getI (c := 44) (T_X2_addSign 18 _ _ _ rfl) fl_X2_40 rfl (Or.inl rfl) ?_
    refine g_iconst (T_X2_addSign 19 _ _ _ rfl) ⟨by decide, by decide⟩ ?_
    refine g_iadd (T_X2_addSign 20 _ _ _ rfl) ?_
    refine g_put (c := 44) (T_X2_addSign 21 _ _ _ rfl) fl_X2_40 rfl (Or.inl rfl) ?_
    refine g_bndH H fun h3 H => ?_
    exact g_vret (T_X2_addSign 22 _ _ _ rfl) rfl (qv_of H)
def J_X3_readFact_27 (N : Nat) (x2 : Int) (h : Hp) : Option Hp :=
  if x2 < 0 then
    bv (F_X10_fail N 1 h) fun h1 =>
    some h1
  else
  bv (F_X2_addSign N 97 x2 h) fun h1 =>
  bv (F_X10_step N h1) fun h2 =>
  some h2
def F_X3_readFact (N : Nat) (h : Hp) : Option Hp :=
  bd (F_X10_isAtEnd N h) fun y1 h2 =>
  if y1 = 0 then
    bd (F_X10_sign N h2) fun y3 h4 =>
    J_X3_readFact_27 N (sIdx (i2c y3)) h4
  else
  J_X3_readFact_27 N (-1) h2
set_option maxRecDepth 100000 in
set_option maxHeartbeats 4000000 in
theorem R_J_X3_readFact_27 (N : Nat) (x2 : Int) (h : Hp) (res : Hp) (H : J_X3_readFact_27 N x2 h = some res) : Go M_X3_readFact 8 21 [some (.inr 44), some (.inr 42), none] [.inl x2] h (Qv res) := by
  unfold J_X3_readFact_27 at H
  refine g_istore_n (T_X3_readFact 10 _ _ _ rfl) (by decide) ?_
  refine g_iload_n (T_X3_readFact 11 _ _ _ rfl) rfl ?_
  refine g_if_ge (tgt := 34) (T_X3_readFact 12 _ _ _ rfl) (by decide) (fun cc => ?_) (fun cc => ?_)
  · replace H := ite_n (by omega) H
    refine g_aload_n (T_X3_readFact 17 _ _ _ rfl) rfl ?_
    refine g_getR (c := 43) (r := 45) (T_X3_readFact 18 _ _ _ rfl) fl_X3_12 rfl (nR rfl) rfl (by decide) ?_
    refine g_bipush (T_X3_readFact 19 _ _ _ rfl) (by decide) ?_
    refine g_iload_n (T_X3_readFact 20 _ _ _ rfl) rfl ?_
    obtain ⟨h1, hq, H⟩ := bv_some H
    refine g_callVv (M' := M_X2_addSign) (c := 44) (av := [.inl 97, .inl x2]) (st := []) (T_X3_readFact 21 _ _ _ rfl) ml_X3_75 cb_X2_addSign rfl rfl (Nat.le_of_ble_eq_true rfl) (by omega) (R_X2_addSign N _ _ _ _ hq) ?_
    refine g_aload_n (T_X3_readFact 22 _ _ _ rfl) rfl ?_
    obtain ⟨h2, hq, H⟩ := bv_some H
    refine g_callVv (M' := M_X10_step) (c := 41) (av := []) (st := []) (T_X3_readFact 23 _ _ _ rfl) ml_X3_51 cb_X10_step rfl rfl (Nat.le_of_ble_eq_true rfl) (by omega) (R_X10_step N _ _ hq) ?_
    exact g_vret (T_X3_readFact 24 _ _ _ rfl) rfl (qv_of H)
  · replace H := ite_p (by omega) H
    refine g_aload_n (T_X3_readFact 13 _ _ _ rfl) rfl ?_
    refine g_iconst (T_X3_readFact 14 _ _ _ rfl) ⟨by decide, by decide⟩ ?_
    obtain ⟨h1, hq, H⟩ := bv_some H
    refine g_callVv (M' := M_X10_fail) (c := 41) (av := [.inl 1]) (st := []) (T_X3_readFact 15 _ _ _ rfl) ml_X3_48 cb_X10_fail rfl rfl (Nat.le_of_ble_eq_true rfl) (by omega) (R_X10_fail N _ _ _ hq) ?_
    refine g_goto (tgt := 48) (T_X3_readFact 16 _ _ _ rfl) (by decide) ?_
    exact g_vret (T_X3_readFact 24 _ _ _ rfl) rfl (qv_of H)
set_option maxRecDepth 100000 in
theorem R_X3_readFact (N : Nat) (h : Hp) (res : Hp) (H : F_X3_readFact N h = some res) : Runs M_X3_readFact 8 [.inr 44, .inr 42] h (Qv res) := by
  refine Runs.of rfl (Nat.le_of_ble_eq_true rfl) ?_
  show Go M_X3_readFact 8 0 [some (.inr 44), some (.inr 42), none] [] h (Qv res)
  unfold F_X3_readFact at H
  refine g_aload_n (T_X3_readFact 0 _ _ _ rfl) rfl ?_
  obtain ⟨y1, h2, hq, H⟩ := bd_some H
  refine g_callVi (M' := M_X10_isAtEnd) (c := 41) (av := []) (st := []) (T_X3_readFact 1 _ _ _ rfl) ml_X3_31 cb_X10_isAtEnd rfl rfl (Nat.le_of_ble_eq_true rfl) (by omega) (R_X10_isAtEnd N _ _ hq) ?_
  refine g_if_eq (tgt := 11) (T_X3_readFact 2 _ _ _ rfl) (by decide) (fun cc => ?_) (fun cc => ?_)
  · replace H := ite_p cc H
    obtain ⟨y3, h4, hq, H⟩ := bd_some H
    refine g_readIdx (d' := 1) (by omega) (by omega) rfl (T_X3_readFact 5 _ _ _ rfl) (T_X3_readFact 6 _ _ _ rfl) (T_X3_readFact 7 _ _ _ rfl) (T_X3_readFact 8 _ _ _ rfl) (T_X3_readFact 9 _ _ _ rfl) (R_X10_sign N _ _ hq) ?_
    exact R_J_X3_readFact_27 N _ _ _ H
  · replace H := ite_n cc H
    refine g_iconst (T_X3_readFact 3 _ _ _ rfl) ⟨by decide, by decide⟩ ?_
    refine g_goto (tgt := 21) (T_X3_readFact 4 _ _ _ rfl) (by decide) ?_
    exact R_J_X3_readFact_27 N _ _ _ H
def L_X10_readNumber_16 (N : Nat) : Nat → Int → Int → Int → Hp → Option (Int × Hp)
  | 0, _, _, _, _ => none
  | n + 1, x1, x2, x3, h =>
    if x1 ≤ x3 then
      some (x2, h)
    else
    bd (F_X10_seesDigit N h) fun y2 h1 =>
    if y2 = 0 then
      some (x2, h1)
    else
    bnd ((w32 ((w32 ((w32 (x2 * 10)) + (h1 41 4))) - 48))) fun y3 =>
    bv (F_X10_step N h1) fun h4 =>
    bnd (w32 (x3 + 1)) fun y5 =>
    (L_X10_readNumber_16 N n) x1 y3 y5 h4
set_option maxRecDepth 100000 in
set_option maxHeartbeats 4000000 in
theorem R_L_X10_readNumber_16 (N : Nat) : ∀ (n : Nat) (x1 : Int) (x2 : Int) (x3 : Int) (h : Hp) (res : Int × Hp), L_X10_readNumber_16 N n x1 x2 x3 h = some res → Go M_X10_readNumber 2 16 [some (.inr 42), some (.inl x1), some (.inl x2), some (.inl x3)] [] h (Qi res)
  | 0, _, _, _, _, _, H => by cases H
  | n + 1, x1, x2, x3, h, res, H => by
    have ih := R_L_X10_readNumber_16 N n
    simp only [L_X10_readNumber_16] at H
    refine g_iload_n (T_X10_readNumber 10 _ _ _ rfl) rfl ?_
    refine g_iload_n (T_X10_readNumber 11 _ _ _ rfl) rfl ?_
    refine g_icmp_ge (tgt := 51) (T_X10_readNumber 12 _ _ _ rfl) (by decide) (fun cc => ?_) (fun cc => ?_)
    · replace H := ite_p cc H
      refine g_iload_n (T_X10_readNumber 29 _ _ _ rfl) rfl ?_
      exact g_iret (T_X10_readNumber 30 _ _ _ rfl) rfl (qi_of H)
    · replace H := ite_n cc H
      refine g_aload_n (T_X10_readNumber 13 _ _ _ rfl) rfl ?_
      obtain ⟨y2, h1, hq, H⟩ := bd_some H
      refine g_callVi (M' := M_X10_seesDigit) (c := 41) (av := []) (st := []) (T_X10_readNumber 14 _ _ _ rfl) ml_X10_50 cb_X10_seesDigit rfl rfl (Nat.le_of_ble_eq_true rfl) (by omega) (R_X10_seesDigit N _ _ hq) ?_
      refine g_if_eq (tgt := 51) (T_X10_readNumber 15 _ _ _ rfl) (by decide) (fun cc => ?_) (fun cc => ?_)
      · replace H := ite_p cc H
        refine g_iload_n (T_X10_readNumber 29 _ _ _ rfl) rfl ?_
        exact g_iret (T_X10_readNumber 30 _ _ _ rfl) rfl (qi_of H)
      · replace H := ite_n cc H
        refine g_iload_n (T_X10_readNumber 16 _ _ _ rfl) rfl ?_
        refine g_bipush (T_X10_readNumber 17 _ _ _ rfl) (by decide) ?_
        refine g_imul (T_X10_readNumber 18 _ _ _ rfl) ?_
        refine g_aload_n (T_X10_readNumber 19 _ _ _ rfl) rfl ?_
        refine g_getI (c := 41) (T_X10_readNumber 20 _ _ _ rfl) fl_X10_36 rfl (Or.inl rfl) ?_
        refine g_iadd (T_X10_readNumber 21 _ _ _ rfl) ?_
        refine g_bipush (T_X10_readNumber 22 _ _ _ rfl) (by decide) ?_
        refine g_isub (T_X10_readNumber 23 _ _ _ rfl) ?_
        refine g_bndI H fun y3 H => ?_
        refine g_istore_n (T_X10_readNumber 24 _ _ _ rfl) (by decide) ?_
        refine g_aload_n (T_X10_readNumber 25 _ _ _ rfl) rfl ?_
        obtain ⟨h4, hq, H⟩ := bv_some H
        refine g_callVv (M' := M_X10_step) (c := 41) (av := []) (st := []) (T_X10_readNumber 26 _ _ _ rfl) ml_X10_43 cb_X10_step rfl rfl (Nat.le_of_ble_eq_true rfl) (by omega) (R_X10_step N _ _ hq) ?_
        refine g_iincB (T_X10_readNumber 27 _ _ _ rfl) rfl (by decide) H fun y5 H => ?_
        refine g_goto (tgt := 16) (T_X10_readNumber 28 _ _ _ rfl) (by decide) ?_
        refine g_weak [true, true, true, true] ?_
        exact ih _ _ _ _ _ H
def J_X10_readNumber_12 (N : Nat) (x1 : Int) (h : Hp) : Option (Int × Hp) :=
  L_X10_readNumber_16 N  N x1 0 0 h
set_option maxRecDepth 100000 in
set_option maxHeartbeats 4000000 in
theorem R_J_X10_readNumber_12 (N : Nat) (x1 : Int) (h : Hp) (res : Int × Hp) (H : J_X10_readNumber_12 N x1 h = some res) : Go M_X10_readNumber 2 12 [some (.inr 42), some (.inl x1), none, none] [] h (Qi res) := by
  unfold J_X10_readNumber_12 at H
  refine g_iconst (T_X10_readNumber 6 _ _ _ rfl) ⟨by decide, by decide⟩ ?_
  refine g_istore_n (T_X10_readNumber 7 _ _ _ rfl) (by decide) ?_
  refine g_iconst (T_X10_readNumber 8 _ _ _ rfl) ⟨by decide, by decide⟩ ?_
  refine g_istore_n (T_X10_readNumber 9 _ _ _ rfl) (by decide) ?_
  refine g_weak [true, true, true, true] ?_
  refine R_L_X10_readNumber_16 N   _ _ _ _ _ _ H
def F_X10_readNumber (N : Nat) (x1 : Int) (h : Hp) : Option (Int × Hp) :=
  bd (F_X10_seesDigit N h) fun y2 h1 =>
  if y2 = 0 then
    bv (F_X10_fail N 1 h1) fun h3 =>
    J_X10_readNumber_12 N  x1 h3
  else
  J_X10_readNumber_12 N  x1 h1
set_option maxRecDepth 100000 in
set_option maxHeartbeats 4000000 in
theorem R_X10_readNumber (N : Nat) (x1 : Int) (h : Hp) (res : Int × Hp) (H : F_X10_readNumber N x1 h = some res) : Runs M_X10_readNumber 2 [.inr 42, .inl x1] h (Qi res) := by
  refine Runs.of rfl (Nat.le_of_ble_eq_true rfl) ?_
  show Go M_X10_readNumber 2 0 [some (.inr 42), some (.inl x1), none, none] [] h (Qi res)
  unfold F_X10_readNumber at H
  refine g_aload_n (T_X10_readNumber 0 _ _ _ rfl) rfl ?_
  obtain ⟨y2, h1, hq, H⟩ := bd_some H
  refine g_callVi (M' := M_X10_seesDigit) (c := 41) (av := []) (st := []) (T_X10_readNumber 1 _ _ _ rfl) ml_X10_50 cb_X10_seesDigit rfl rfl (Nat.le_of_ble_eq_true rfl) (by omega) (R_X10_seesDigit N _ _ hq) ?_
  refine g_if_ne (tgt := 12) (T_X10_readNumber 2 _ _ _ rfl) (by decide) (fun cc => ?_) (fun cc => ?_)
  · replace H := ite_n cc H
    refine g_weak [true, true, false, false] ?_
    exact R_J_X10_readNumber_12 N   _ _ _ H
  · replace H := ite_p cc H
    refine g_aload_n (T_X10_readNumber 3 _ _ _ rfl) rfl ?_
    refine g_iconst (T_X10_readNumber 4 _ _ _ rfl) ⟨by decide, by decide⟩ ?_
    obtain ⟨h3, hq, H⟩ := bv_some H
    refine g_callVv (M' := M_X10_fail) (c := 41) (av := [.inl 1]) (st := []) (T_X10_readNumber 5 _ _ _ rfl) ml_X10_46 cb_X10_fail rfl rfl (Nat.le_of_ble_eq_true rfl) (by omega) (R_X10_fail N _ _ _ hq) ?_
    refine g_weak [true, true, false, false] ?_
    exact R_J_X10_readNumber_12 N   _ _ _ H
def F_X3_opens (N : Nat) (x2 : Int) (h : Hp) : Option (Int × Hp) :=
  if x2 < 6 then
    bv (F_X10_step N h) fun h1 =>
    some (1, h1)
  else
  bv (F_X10_fail N 5 h) fun h2 =>
  some (0, h2)
set_option maxRecDepth 100000 in
set_option maxHeartbeats 4000000 in
theorem R_X3_opens (N : Nat) (x2 : Int) (h : Hp) (res : Int × Hp) (H : F_X3_opens N x2 h = some res) : Runs M_X3_opens 2 [.inr 44, .inr 42, .inl x2] h (Qi res) := by
  refine Runs.of rfl (Nat.le_of_ble_eq_true rfl) ?_
  show Go M_X3_opens 2 0 [some (.inr 44), some (.inr 42), some (.inl x2)] [] h (Qi res)
  unfold F_X3_opens at H
  refine g_iload_n (T_X3_opens 0 _ _ _ rfl) rfl ?_
  refine g_bipush (T_X3_opens 1 _ _ _ rfl) (by decide) ?_
  refine g_icmp_lt (tgt := 13) (T_X3_opens 2 _ _ _ rfl) (by decide) (fun cc => ?_) (fun cc => ?_)
  · replace H := ite_p cc H
    refine g_aload_n (T_X3_opens 8 _ _ _ rfl) rfl ?_
    obtain ⟨h1, hq, H⟩ := bv_some H
    refine g_callVv (M' := M_X10_step) (c := 41) (av := []) (st := []) (T_X3_opens 9 _ _ _ rfl) ml_X3_51 cb_X10_step rfl rfl (Nat.le_of_ble_eq_true rfl) (by omega) (R_X10_step N _ _ hq) ?_
    refine g_iconst (T_X3_opens 10 _ _ _ rfl) ⟨by decide, by decide⟩ ?_
    exact g_zret (T_X3_opens 11 _ _ _ rfl) rfl (by decide) (qi_of H)
  · replace H := ite_n cc H
    refine g_aload_n (T_X3_opens 3 _ _ _ rfl) rfl ?_
    refine g_iconst (T_X3_opens 4 _ _ _ rfl) ⟨by decide, by decide⟩ ?_
    obtain ⟨h2, hq, H⟩ := bv_some H
    refine g_callVv (M' := M_X10_fail) (c := 41) (av := [.inl 5]) (st := []) (T_X3_opens 5 _ _ _ rfl) ml_X3_48 cb_X10_fail rfl rfl (Nat.le_of_ble_eq_true rfl) (by omega) (R_X10_fail N _ _ _ hq) ?_
    refine g_iconst (T_X3_opens 6 _ _ _ rfl) ⟨by decide, by decide⟩ ?_
    exact g_zret (T_X3_opens 7 _ _ _ rfl) rfl (by decide) (qi_of H)
def F_X10_need (N : Nat) (x1 : Int) (h : Hp) : Option (Hp) :=
  bd (F_X10_sees N x1 h) fun y2 h1 =>
  if y2 = 0 then
    bv (F_X10_fail N 1 h1) fun h3 =>
    some h3
  else
  bv (F_X10_step N h1) fun h4 =>
  some h4
set_option maxRecDepth 100000 in
set_option maxHeartbeats 4000000 in
theorem R_X10_need (N : Nat) (x1 : Int) (h : Hp) (res : Hp) (H : F_X10_need N x1 h = some res) : Runs M_X10_need 2 [.inr 42, .inl x1] h (Qv res) := by
  refine Runs.of rfl (Nat.le_of_ble_eq_true rfl) ?_
  show Go M_X10_need 2 0 [some (.inr 42), some (.inl x1)] [] h (Qv res)
  unfold F_X10_need at H
  refine g_aload_n (T_X10_need 0 _ _ _ rfl) rfl ?_
  refine g_iload_n (T_X10_need 1 _ _ _ rfl) rfl ?_
  obtain ⟨y2, h1, hq, H⟩ := bd_some H
  refine g_callVi (M' := M_X10_sees) (c := 41) (av := [.inl x1]) (st := []) (T_X10_need 2 _ _ _ rfl) ml_X10_39 cb_X10_sees rfl rfl (Nat.le_of_ble_eq_true rfl) (by omega) (R_X10_sees N _ _ _ hq) ?_
  refine g_if_eq (tgt := 15) (T_X10_need 3 _ _ _ rfl) (by decide) (fun cc => ?_) (fun cc => ?_)
  · replace H := ite_p cc H
    refine g_aload_n (T_X10_need 7 _ _ _ rfl) rfl ?_
    refine g_iconst (T_X10_need 8 _ _ _ rfl) ⟨by decide, by decide⟩ ?_
    obtain ⟨h3, hq, H⟩ := bv_some H
    refine g_callVv (M' := M_X10_fail) (c := 41) (av := [.inl 1]) (st := []) (T_X10_need 9 _ _ _ rfl) ml_X10_46 cb_X10_fail rfl rfl (Nat.le_of_ble_eq_true rfl) (by omega) (R_X10_fail N _ _ _ hq) ?_
    exact g_vret (T_X10_need 10 _ _ _ rfl) rfl (qv_of H)
  · replace H := ite_n cc H
    refine g_aload_n (T_X10_need 4 _ _ _ rfl) rfl ?_
    obtain ⟨h4, hq, H⟩ := bv_some H
    refine g_callVv (M' := M_X10_step) (c := 41) (av := []) (st := []) (T_X10_need 5 _ _ _ rfl) ml_X10_43 cb_X10_step rfl rfl (Nat.le_of_ble_eq_true rfl) (by omega) (R_X10_step N _ _ hq) ?_
    refine g_goto (tgt := 20) (T_X10_need 6 _ _ _ rfl) (by decide) ?_
    exact g_vret (T_X10_need 10 _ _ _ rfl) rfl (qv_of H)
def F_X3_readFactor (N : Nat) (rc : Int → Hp → Option (Hp)) (x2 : Int) (h : Hp) : Option (Hp) :=
  bd (F_X10_sees N 91 h) fun y2 h1 =>
  if y2 = 0 then
    bd (F_X10_seesDigit N h1) fun y4 h3 =>
    if y4 = 0 then
      bv (F_X3_readFact N h3) fun h5 =>
      some h5
    else
    bd (F_X10_readNumber N 5 h3) fun y7 h6 =>
    bv (F_X2_addSign N 48 y7 h6) fun h8 =>
    bd (F_X10_seesDigit N h8) fun y10 h9 =>
    if y10 = 0 then
      some h9
    else
    bv (F_X10_fail N 2 h9) fun h11 =>
    some h11
  else
  bd (F_X3_opens N x2 h1) fun y13 h12 =>
  if y13 = 0 then
    some h12
  else
  bv (rc (w32 (x2 + 1)) h12) fun h14 =>
  bv (F_X10_need N 93 h14) fun h15 =>
  some h15
set_option maxRecDepth 100000 in
set_option maxHeartbeats 4000000 in
theorem R_X3_readFactor (N : Nat) (rc : Int → Hp → Option (Hp)) (dr : Nat) (hrc : ∀ (a0 : Int) (h : Hp) (res : Hp), rc a0 h = some res → Runs M_X3_readSum dr [.inr 44, .inr 42, .inl a0] h (Qv res)) (x2 : Int) (h : Hp) (res : Hp) (H : F_X3_readFactor N rc x2 h = some res) : Runs M_X3_readFactor (dr + 9) [.inr 44, .inr 42, .inl x2] h (Qv res) := by
  refine Runs.of rfl (Nat.le_of_ble_eq_true rfl) ?_
  show Go M_X3_readFactor (dr + 9) 0 [some (.inr 44), some (.inr 42), some (.inl x2)] [] h (Qv res)
  unfold F_X3_readFactor at H
  refine g_aload_n (T_X3_readFactor 0 _ _ _ rfl) rfl ?_
  refine g_bipush (T_X3_readFactor 1 _ _ _ rfl) (by decide) ?_
  obtain ⟨y2, h1, hq, H⟩ := bd_some H
  refine g_callVi (M' := M_X10_sees) (c := 41) (av := [.inl 91]) (st := []) (T_X3_readFactor 2 _ _ _ rfl) ml_X3_71 cb_X10_sees rfl rfl (Nat.le_of_ble_eq_true rfl) (by omega) (R_X10_sees N _ _ _ hq) ?_
  refine g_if_eq (tgt := 35) (T_X3_readFactor 3 _ _ _ rfl) (by decide) (fun cc => ?_) (fun cc => ?_)
  · replace H := ite_p cc H
    refine g_aload_n (T_X3_readFactor 19 _ _ _ rfl) rfl ?_
    obtain ⟨y4, h3, hq, H⟩ := bd_some H
    refine g_callVi (M' := M_X10_seesDigit) (c := 41) (av := []) (st := []) (T_X3_readFactor 20 _ _ _ rfl) ml_X3_90 cb_X10_seesDigit rfl rfl (Nat.le_of_ble_eq_true rfl) (by omega) (R_X10_seesDigit N _ _ hq) ?_
    refine g_if_eq (tgt := 71) (T_X3_readFactor 21 _ _ _ rfl) (by decide) (fun cc => ?_) (fun cc => ?_)
    · replace H := ite_p cc H
      refine g_aload_n (T_X3_readFactor 36 _ _ _ rfl) rfl ?_
      refine g_aload_n (T_X3_readFactor 37 _ _ _ rfl) rfl ?_
      obtain ⟨h5, hq, H⟩ := bv_some H
      refine g_callVv (M' := M_X3_readFact) (c := 43) (av := [.inr 42]) (st := []) (T_X3_readFactor 38 _ _ _ rfl) ml_X3_97 cb_X3_readFact rfl rfl (Nat.le_of_ble_eq_true rfl) (by omega) (R_X3_readFact N _ _ hq) ?_
      exact g_vret (T_X3_readFactor 39 _ _ _ rfl) rfl (qv_of H)
    · replace H := ite_n cc H
      refine g_aload_n (T_X3_readFactor 22 _ _ _ rfl) rfl ?_
      refine g_getR (c := 43) (r := 45) (T_X3_readFactor 23 _ _ _ rfl) fl_X3_12 rfl (nR rfl) rfl (by decide) ?_
      refine g_bipush (T_X3_readFactor 24 _ _ _ rfl) (by decide) ?_
      refine g_aload_n (T_X3_readFactor 25 _ _ _ rfl) rfl ?_
      refine g_iconst (T_X3_readFactor 26 _ _ _ rfl) ⟨by decide, by decide⟩ ?_
      obtain ⟨y7, h6, hq, H⟩ := bd_some H
      refine g_callVi (M' := M_X10_readNumber) (c := 41) (av := [.inl 5]) (st := [.inl 48, .inr 45]) (T_X3_readFactor 27 _ _ _ rfl) ml_X3_93 cb_X10_readNumber rfl rfl (Nat.le_of_ble_eq_true rfl) (by omega) (R_X10_readNumber N _ _ _ hq) ?_
      obtain ⟨h8, hq, H⟩ := bv_some H
      refine g_callVv (M' := M_X2_addSign) (c := 44) (av := [.inl 48, .inl y7]) (st := []) (T_X3_readFactor 28 _ _ _ rfl) ml_X3_75 cb_X2_addSign rfl rfl (Nat.le_of_ble_eq_true rfl) (by omega) (R_X2_addSign N _ _ _ _ hq) ?_
      refine g_aload_n (T_X3_readFactor 29 _ _ _ rfl) rfl ?_
      obtain ⟨y10, h9, hq, H⟩ := bd_some H
      refine g_callVi (M' := M_X10_seesDigit) (c := 41) (av := []) (st := []) (T_X3_readFactor 30 _ _ _ rfl) ml_X3_90 cb_X10_seesDigit rfl rfl (Nat.le_of_ble_eq_true rfl) (by omega) (R_X10_seesDigit N _ _ hq) ?_
      refine g_if_eq (tgt := 76) (T_X3_readFactor 31 _ _ _ rfl) (by decide) (fun cc => ?_) (fun cc => ?_)
      · replace H := ite_p cc H
        exact g_vret (T_X3_readFactor 39 _ _ _ rfl) rfl (qv_of H)
      · replace H := ite_n cc H
        refine g_aload_n (T_X3_readFactor 32 _ _ _ rfl) rfl ?_
        refine g_iconst (T_X3_readFactor 33 _ _ _ rfl) ⟨by decide, by decide⟩ ?_
        obtain ⟨h11, hq, H⟩ := bv_some H
        refine g_callVv (M' := M_X10_fail) (c := 41) (av := [.inl 2]) (st := []) (T_X3_readFactor 34 _ _ _ rfl) ml_X3_48 cb_X10_fail rfl rfl (Nat.le_of_ble_eq_true rfl) (by omega) (R_X10_fail N _ _ _ hq) ?_
        refine g_goto (tgt := 76) (T_X3_readFactor 35 _ _ _ rfl) (by decide) ?_
        exact g_vret (T_X3_readFactor 39 _ _ _ rfl) rfl (qv_of H)
  · replace H := ite_n cc H
    refine g_aload_n (T_X3_readFactor 4 _ _ _ rfl) rfl ?_
    refine g_aload_n (T_X3_readFactor 5 _ _ _ rfl) rfl ?_
    refine g_iload_n (T_X3_readFactor 6 _ _ _ rfl) rfl ?_
    obtain ⟨y13, h12, hq, H⟩ := bd_some H
    refine g_callVi (M' := M_X3_opens) (c := 43) (av := [.inr 42, .inl x2]) (st := []) (T_X3_readFactor 7 _ _ _ rfl) ml_X3_86 cb_X3_opens rfl rfl (Nat.le_of_ble_eq_true rfl) (by omega) (R_X3_opens N _ _ _ hq) ?_
    refine g_if_eq (tgt := 76) (T_X3_readFactor 8 _ _ _ rfl) (by decide) (fun cc => ?_) (fun cc => ?_)
    · replace H := ite_p cc H
      exact g_vret (T_X3_readFactor 39 _ _ _ rfl) rfl (qv_of H)
    · replace H := ite_n cc H
      refine g_aload_n (T_X3_readFactor 9 _ _ _ rfl) rfl ?_
      refine g_aload_n (T_X3_readFactor 10 _ _ _ rfl) rfl ?_
      refine g_iload_n (T_X3_readFactor 11 _ _ _ rfl) rfl ?_
      refine g_iconst (T_X3_readFactor 12 _ _ _ rfl) ⟨by decide, by decide⟩ ?_
      refine g_iadd (T_X3_readFactor 13 _ _ _ rfl) ?_
      obtain ⟨h14, hq, H⟩ := bv_some H
      refine g_callVv (M' := M_X3_readSum) (c := 43) (av := [.inr 42, .inl (w32 (x2 + 1))]) (st := []) (T_X3_readFactor 14 _ _ _ rfl) ml_X3_57 cb_X3_readSum rfl rfl (Nat.le_of_ble_eq_true rfl) (by omega) (hrc _ _ _ hq) ?_
      refine g_aload_n (T_X3_readFactor 15 _ _ _ rfl) rfl ?_
      refine g_bipush (T_X3_readFactor 16 _ _ _ rfl) (by decide) ?_
      obtain ⟨h15, hq, H⟩ := bv_some H
      refine g_callVv (M' := M_X10_need) (c := 41) (av := [.inl 93]) (st := []) (T_X3_readFactor 17 _ _ _ rfl) ml_X3_34 cb_X10_need rfl rfl (Nat.le_of_ble_eq_true rfl) (by omega) (R_X10_need N _ _ _ hq) ?_
      refine g_goto (tgt := 76) (T_X3_readFactor 18 _ _ _ rfl) (by decide) ?_
      exact g_vret (T_X3_readFactor 39 _ _ _ rfl) rfl (qv_of H)
def F_X3_seesProductSign (N : Nat) (h : Hp) : Option (Int × Hp) :=
  bd (F_X10_sees N 42 h) fun y2 h1 =>
  if y2 = 0 then
    bd (F_X10_sees N 47 h1) fun y4 h3 =>
    if y4 = 0 then
      bd (F_X10_sees N 37 h3) fun y6 h5 =>
      if y6 = 0 then
        some (0, h5)
      else
      some (1, h5)
    else
    some (1, h3)
  else
  some (1, h1)
set_option maxRecDepth 100000 in
set_option maxHeartbeats 4000000 in
theorem R_X3_seesProductSign (N : Nat) (h : Hp) (res : Int × Hp) (H : F_X3_seesProductSign N h = some res) : Runs M_X3_seesProductSign 2 [.inr 42] h (Qi res) := by
  refine Runs.of rfl (Nat.le_of_ble_eq_true rfl) ?_
  show Go M_X3_seesProductSign 2 0 [some (.inr 42)] [] h (Qi res)
  unfold F_X3_seesProductSign at H
  refine g_aload_n (T_X3_seesProductSign 0 _ _ _ rfl) rfl ?_
  refine g_bipush (T_X3_seesProductSign 1 _ _ _ rfl) (by decide) ?_
  obtain ⟨y2, h1, hq, H⟩ := bd_some H
  refine g_callVi (M' := M_X10_sees) (c := 41) (av := [.inl 42]) (st := []) (T_X3_seesProductSign 2 _ _ _ rfl) ml_X3_71 cb_X10_sees rfl rfl (Nat.le_of_ble_eq_true rfl) (by omega) (R_X10_sees N _ _ _ hq) ?_
  refine g_if_ne (tgt := 27) (T_X3_seesProductSign 3 _ _ _ rfl) (by decide) (fun cc => ?_) (fun cc => ?_)
  · replace H := ite_n cc H
    refine g_iconst (T_X3_seesProductSign 12 _ _ _ rfl) ⟨by decide, by decide⟩ ?_
    refine g_goto (tgt := 32) (T_X3_seesProductSign 13 _ _ _ rfl) (by decide) ?_
    exact g_zret (T_X3_seesProductSign 15 _ _ _ rfl) rfl (by decide) (qi_of H)
  · replace H := ite_p cc H
    refine g_aload_n (T_X3_seesProductSign 4 _ _ _ rfl) rfl ?_
    refine g_bipush (T_X3_seesProductSign 5 _ _ _ rfl) (by decide) ?_
    obtain ⟨y4, h3, hq, H⟩ := bd_some H
    refine g_callVi (M' := M_X10_sees) (c := 41) (av := [.inl 47]) (st := []) (T_X3_seesProductSign 6 _ _ _ rfl) ml_X3_71 cb_X10_sees rfl rfl (Nat.le_of_ble_eq_true rfl) (by omega) (R_X10_sees N _ _ _ hq) ?_
    refine g_if_ne (tgt := 27) (T_X3_seesProductSign 7 _ _ _ rfl) (by decide) (fun cc => ?_) (fun cc => ?_)
    · replace H := ite_n cc H
      refine g_iconst (T_X3_seesProductSign 12 _ _ _ rfl) ⟨by decide, by decide⟩ ?_
      refine g_goto (tgt := 32) (T_X3_seesProductSign 13 _ _ _ rfl) (by decide) ?_
      exact g_zret (T_X3_seesProductSign 15 _ _ _ rfl) rfl (by decide) (qi_of H)
    · replace H := ite_p cc H
      refine g_aload_n (T_X3_seesProductSign 8 _ _ _ rfl) rfl ?_
      refine g_bipush (T_X3_seesProductSign 9 _ _ _ rfl) (by decide) ?_
      obtain ⟨y6, h5, hq, H⟩ := bd_some H
      refine g_callVi (M' := M_X10_sees) (c := 41) (av := [.inl 37]) (st := []) (T_X3_seesProductSign 10 _ _ _ rfl) ml_X3_71 cb_X10_sees rfl rfl (Nat.le_of_ble_eq_true rfl) (by omega) (R_X10_sees N _ _ _ hq) ?_
      refine g_if_eq (tgt := 31) (T_X3_seesProductSign 11 _ _ _ rfl) (by decide) (fun cc => ?_) (fun cc => ?_)
      · replace H := ite_p cc H
        refine g_iconst (T_X3_seesProductSign 14 _ _ _ rfl) ⟨by decide, by decide⟩ ?_
        exact g_zret (T_X3_seesProductSign 15 _ _ _ rfl) rfl (by decide) (qi_of H)
      · replace H := ite_n cc H
        refine g_iconst (T_X3_seesProductSign 12 _ _ _ rfl) ⟨by decide, by decide⟩ ?_
        refine g_goto (tgt := 32) (T_X3_seesProductSign 13 _ _ _ rfl) (by decide) ?_
        exact g_zret (T_X3_seesProductSign 15 _ _ _ rfl) rfl (by decide) (qi_of H)
def L_X3_readProduct_8 (N : Nat) (rc : Int → Hp → Option (Hp)) : Nat → Int → Int → Hp → Option (Hp)
  | 0, _, _, _ => none
  | n + 1, x2, x3, h =>
    if 240 ≤ x3 then
      some h
    else
    bd (F_X3_seesProductSign N h) fun y2 h1 =>
    if y2 = 0 then
      some h1
    else
    bd (F_X10_sign N h1) fun y4 h3 =>
    bv (F_X10_step N h3) fun h5 =>
    bv (F_X3_readFactor N rc x2 h5) fun h6 =>
    bv (F_X2_addSign N y4 0 h6) fun h7 =>
    bnd (w32 (x3 + 1)) fun y8 =>
    (L_X3_readProduct_8 N rc n) x2 y8 h7
set_option maxRecDepth 100000 in
set_option maxHeartbeats 4000000 in
theorem R_L_X3_readProduct_8 (N : Nat) (rc : Int → Hp → Option (Hp)) (dr : Nat) (hrc : ∀ (a0 : Int) (h : Hp) (res : Hp), rc a0 h = some res → Runs M_X3_readSum dr [.inr 44, .inr 42, .inl a0] h (Qv res)) : ∀ (n : Nat) (x2 : Int) (x3 : Int) (h : Hp) (res : Hp), L_X3_readProduct_8 N rc n x2 x3 h = some res → Go M_X3_readProduct (dr + 10) 8 [some (.inr 44), some (.inr 42), some (.inl x2), some (.inl x3), none] [] h (Qv res)
  | 0, _, _, _, _, H => by cases H
  | n + 1, x2, x3, h, res, H => by
    have ih := R_L_X3_readProduct_8 N rc dr hrc n
    simp only [L_X3_readProduct_8] at H
    refine g_iload_n (T_X3_readProduct 6 _ _ _ rfl) rfl ?_
    refine g_sipush (T_X3_readProduct 7 _ _ _ rfl) (by decide) ?_
    refine g_icmp_ge (tgt := 54) (T_X3_readProduct 8 _ _ _ rfl) (by decide) (fun cc => ?_) (fun cc => ?_)
    · replace H := ite_p cc H
      exact g_vret (T_X3_readProduct 28 _ _ _ rfl) rfl (qv_of H)
    · replace H := ite_n cc H
      refine g_aload_n (T_X3_readProduct 9 _ _ _ rfl) rfl ?_
      obtain ⟨y2, h1, hq, H⟩ := bd_some H
      refine g_callSi (M' := M_X3_seesProductSign) (av := [.inr 42]) (st := []) (T_X3_readProduct 10 _ _ _ rfl) ml_X3_82 cb_X3_seesProductSign rfl (Nat.le_of_ble_eq_true rfl) (by omega) (R_X3_seesProductSign N _ _ hq) ?_
      refine g_if_eq (tgt := 54) (T_X3_readProduct 11 _ _ _ rfl) (by decide) (fun cc => ?_) (fun cc => ?_)
      · replace H := ite_p cc H
        exact g_vret (T_X3_readProduct 28 _ _ _ rfl) rfl (qv_of H)
      · replace H := ite_n cc H
        refine g_aload_n (T_X3_readProduct 12 _ _ _ rfl) rfl ?_
        obtain ⟨y4, h3, hq, H⟩ := bd_some H
        refine g_callVi (M' := M_X10_sign) (c := 41) (av := []) (st := []) (T_X3_readProduct 13 _ _ _ rfl) ml_X3_45 cb_X10_sign rfl rfl (Nat.le_of_ble_eq_true rfl) (by omega) (R_X10_sign N _ _ hq) ?_
        refine g_istore (T_X3_readProduct 14 _ _ _ rfl) (by decide) ?_
        refine g_aload_n (T_X3_readProduct 15 _ _ _ rfl) rfl ?_
        obtain ⟨h5, hq, H⟩ := bv_some H
        refine g_callVv (M' := M_X10_step) (c := 41) (av := []) (st := []) (T_X3_readProduct 16 _ _ _ rfl) ml_X3_51 cb_X10_step rfl rfl (Nat.le_of_ble_eq_true rfl) (by omega) (R_X10_step N _ _ hq) ?_
        refine g_aload_n (T_X3_readProduct 17 _ _ _ rfl) rfl ?_
        refine g_aload_n (T_X3_readProduct 18 _ _ _ rfl) rfl ?_
        refine g_iload_n (T_X3_readProduct 19 _ _ _ rfl) rfl ?_
        obtain ⟨h6, hq, H⟩ := bv_some H
        refine g_callVv (M' := M_X3_readFactor) (c := 43) (av := [.inr 42, .inl x2]) (st := []) (T_X3_readProduct 20 _ _ _ rfl) ml_X3_79 cb_X3_readFactor rfl rfl (Nat.le_of_ble_eq_true rfl) (by omega) (R_X3_readFactor N rc dr hrc _ _ _ hq) ?_
        refine g_aload_n (T_X3_readProduct 21 _ _ _ rfl) rfl ?_
        refine g_getR (c := 43) (r := 45) (T_X3_readProduct 22 _ _ _ rfl) fl_X3_12 rfl (nR rfl) rfl (by decide) ?_
        refine g_iload (T_X3_readProduct 23 _ _ _ rfl) rfl ?_
        refine g_iconst (T_X3_readProduct 24 _ _ _ rfl) ⟨by decide, by decide⟩ ?_
        obtain ⟨h7, hq, H⟩ := bv_some H
        refine g_callVv (M' := M_X2_addSign) (c := 44) (av := [.inl y4, .inl 0]) (st := []) (T_X3_readProduct 25 _ _ _ rfl) ml_X3_75 cb_X2_addSign rfl rfl (Nat.le_of_ble_eq_true rfl) (by omega) (R_X2_addSign N _ _ _ _ hq) ?_
        refine g_iincB (T_X3_readProduct 26 _ _ _ rfl) rfl (by decide) H fun y8 H => ?_
        refine g_goto (tgt := 8) (T_X3_readProduct 27 _ _ _ rfl) (by decide) ?_
        refine g_weak [true, true, true, true, false] ?_
        exact ih _ _ _ _ H
def F_X3_readProduct (N : Nat) (rc : Int → Hp → Option (Hp)) (x2 : Int) (h : Hp) : Option (Hp) :=
  bv (F_X3_readFactor N rc x2 h) fun h1 =>
  L_X3_readProduct_8 N rc  N x2 0 h1
set_option maxRecDepth 100000 in
set_option maxHeartbeats 4000000 in
theorem R_X3_readProduct (N : Nat) (rc : Int → Hp → Option (Hp)) (dr : Nat) (hrc : ∀ (a0 : Int) (h : Hp) (res : Hp), rc a0 h = some res → Runs M_X3_readSum dr [.inr 44, .inr 42, .inl a0] h (Qv res)) (x2 : Int) (h : Hp) (res : Hp) (H : F_X3_readProduct N rc x2 h = some res) : Runs M_X3_readProduct (dr + 10) [.inr 44, .inr 42, .inl x2] h (Qv res) := by
  refine Runs.of rfl (Nat.le_of_ble_eq_true rfl) ?_
  show Go M_X3_readProduct (dr + 10) 0 [some (.inr 44), some (.inr 42), some (.inl x2), none, none] [] h (Qv res)
  unfold F_X3_readProduct at H
  refine g_aload_n (T_X3_readProduct 0 _ _ _ rfl) rfl ?_
  refine g_aload_n (T_X3_readProduct 1 _ _ _ rfl) rfl ?_
  refine g_iload_n (T_X3_readProduct 2 _ _ _ rfl) rfl ?_
  obtain ⟨h1, hq, H⟩ := bv_some H
  refine g_callVv (M' := M_X3_readFactor) (c := 43) (av := [.inr 42, .inl x2]) (st := []) (T_X3_readProduct 3 _ _ _ rfl) ml_X3_79 cb_X3_readFactor rfl rfl (Nat.le_of_ble_eq_true rfl) (by omega) (R_X3_readFactor N rc dr hrc _ _ _ hq) ?_
  refine g_iconst (T_X3_readProduct 4 _ _ _ rfl) ⟨by decide, by decide⟩ ?_
  refine g_istore_n (T_X3_readProduct 5 _ _ _ rfl) (by decide) ?_
  refine g_weak [true, true, true, true, false] ?_
  refine R_L_X3_readProduct_8 N rc  dr hrc  _ _ _ _ _ H
def J_X3_readSum_33 (N : Nat) (rc : Int → Hp → Option (Hp)) (k8 : Int → Int → Hp → Option (Hp)) (x2 : Int) (x3 : Int) (h : Hp) : Option (Hp) :=
  bd (F_X10_sign N h) fun y2 h1 =>
  bv (F_X10_step N h1) fun h3 =>
  bv (F_X3_readProduct N rc x2 h3) fun h4 =>
  bv (F_X2_addSign N y2 0 h4) fun h5 =>
  bnd (w32 (x3 + 1)) fun y6 =>
  k8 x2 y6 h5
set_option maxRecDepth 100000 in
set_option maxHeartbeats 4000000 in
theorem R_J_X3_readSum_33 (N : Nat) (rc : Int → Hp → Option (Hp)) (k8 : Int → Int → Hp → Option (Hp)) (dr : Nat) (hrc : ∀ (a0 : Int) (h : Hp) (res : Hp), rc a0 h = some res → Runs M_X3_readSum dr [.inr 44, .inr 42, .inl a0] h (Qv res)) (hk8 : ∀ (x2 : Int) (x3 : Int) (h : Hp) (res : Hp), k8 x2 x3 h = some res → Go M_X3_readSum (dr + 11) 8 [some (.inr 44), some (.inr 42), some (.inl x2), some (.inl x3), none] [] h (Qv res)) (x2 : Int) (x3 : Int) (h : Hp) (res : Hp) (H : J_X3_readSum_33 N rc k8 x2 x3 h = some res) : Go M_X3_readSum (dr + 11) 33 [some (.inr 44), some (.inr 42), some (.inl x2), some (.inl x3), none] [] h (Qv res) := by
  unfold J_X3_readSum_33 at H
  refine g_aload_n (T_X3_readSum 17 _ _ _ rfl) rfl ?_
  obtain ⟨y2, h1, hq, H⟩ := bd_some H
  refine g_callVi (M' := M_X10_sign) (c := 41) (av := []) (st := []) (T_X3_readSum 18 _ _ _ rfl) ml_X3_45 cb_X10_sign rfl rfl (Nat.le_of_ble_eq_true rfl) (by omega) (R_X10_sign N _ _ hq) ?_
  refine g_istore (T_X3_readSum 19 _ _ _ rfl) (by decide) ?_
  refine g_aload_n (T_X3_readSum 20 _ _ _ rfl) rfl ?_
  obtain ⟨h3, hq, H⟩ := bv_some H
  refine g_callVv (M' := M_X10_step) (c := 41) (av := []) (st := []) (T_X3_readSum 21 _ _ _ rfl) ml_X3_51 cb_X10_step rfl rfl (Nat.le_of_ble_eq_true rfl) (by omega) (R_X10_step N _ _ hq) ?_
  refine g_aload_n (T_X3_readSum 22 _ _ _ rfl) rfl ?_
  refine g_aload_n (T_X3_readSum 23 _ _ _ rfl) rfl ?_
  refine g_iload_n (T_X3_readSum 24 _ _ _ rfl) rfl ?_
  obtain ⟨h4, hq, H⟩ := bv_some H
  refine g_callVv (M' := M_X3_readProduct) (c := 43) (av := [.inr 42, .inl x2]) (st := []) (T_X3_readSum 25 _ _ _ rfl) ml_X3_68 cb_X3_readProduct rfl rfl (Nat.le_of_ble_eq_true rfl) (by omega) (R_X3_readProduct N rc dr hrc _ _ _ hq) ?_
  refine g_aload_n (T_X3_readSum 26 _ _ _ rfl) rfl ?_
  refine g_getR (c := 43) (r := 45) (T_X3_readSum 27 _ _ _ rfl) fl_X3_12 rfl (nR rfl) rfl (by decide) ?_
  refine g_iload (T_X3_readSum 28 _ _ _ rfl) rfl ?_
  refine g_iconst (T_X3_readSum 29 _ _ _ rfl) ⟨by decide, by decide⟩ ?_
  obtain ⟨h5, hq, H⟩ := bv_some H
  refine g_callVv (M' := M_X2_addSign) (c := 44) (av := [.inl y2, .inl 0]) (st := []) (T_X3_readSum 30 _ _ _ rfl) ml_X3_75 cb_X2_addSign rfl rfl (Nat.le_of_ble_eq_true rfl) (by omega) (R_X2_addSign N _ _ _ _ hq) ?_
  refine g_iincB (T_X3_readSum 31 _ _ _ rfl) rfl (by decide) H fun y6 H => ?_
  refine g_goto (tgt := 8) (T_X3_readSum 32 _ _ _ rfl) (by decide) ?_
  refine g_weak [true, true, true, true, false] ?_
  exact hk8 _ _ _ _ H
def L_X3_readSum_8 (N : Nat) (rc : Int → Hp → Option (Hp)) : Nat → Int → Int → Hp → Option (Hp)
  | 0, _, _, _ => none
  | n + 1, x2, x3, h =>
    if 240 ≤ x3 then
      some h
    else
    bd (F_X10_sees N 43 h) fun y2 h1 =>
    if y2 = 0 then
      bd (F_X10_sees N 45 h1) fun y4 h3 =>
      if y4 = 0 then
        some h3
      else
      J_X3_readSum_33 N rc (L_X3_readSum_8 N rc n) x2 x3 h3
    else
    J_X3_readSum_33 N rc (L_X3_readSum_8 N rc n) x2 x3 h1
set_option maxRecDepth 100000 in
set_option maxHeartbeats 4000000 in
theorem R_L_X3_readSum_8 (N : Nat) (rc : Int → Hp → Option (Hp)) (dr : Nat) (hrc : ∀ (a0 : Int) (h : Hp) (res : Hp), rc a0 h = some res → Runs M_X3_readSum dr [.inr 44, .inr 42, .inl a0] h (Qv res)) : ∀ (n : Nat) (x2 : Int) (x3 : Int) (h : Hp) (res : Hp), L_X3_readSum_8 N rc n x2 x3 h = some res → Go M_X3_readSum (dr + 11) 8 [some (.inr 44), some (.inr 42), some (.inl x2), some (.inl x3), none] [] h (Qv res)
  | 0, _, _, _, _, H => by cases H
  | n + 1, x2, x3, h, res, H => by
    have ih := R_L_X3_readSum_8 N rc dr hrc n
    simp only [L_X3_readSum_8] at H
    refine g_iload_n (T_X3_readSum 6 _ _ _ rfl) rfl ?_
    refine g_sipush (T_X3_readSum 7 _ _ _ rfl) (by decide) ?_
    refine g_icmp_ge (tgt := 65) (T_X3_readSum 8 _ _ _ rfl) (by decide) (fun cc => ?_) (fun cc => ?_)
    · replace H := ite_p cc H
      exact g_vret (T_X3_readSum 33 _ _ _ rfl) rfl (qv_of H)
    · replace H := ite_n cc H
      refine g_aload_n (T_X3_readSum 9 _ _ _ rfl) rfl ?_
      refine g_bipush (T_X3_readSum 10 _ _ _ rfl) (by decide) ?_
      obtain ⟨y2, h1, hq, H⟩ := bd_some H
      refine g_callVi (M' := M_X10_sees) (c := 41) (av := [.inl 43]) (st := []) (T_X3_readSum 11 _ _ _ rfl) ml_X3_71 cb_X10_sees rfl rfl (Nat.le_of_ble_eq_true rfl) (by omega) (R_X10_sees N _ _ _ hq) ?_
      refine g_if_ne (tgt := 33) (T_X3_readSum 12 _ _ _ rfl) (by decide) (fun cc => ?_) (fun cc => ?_)
      · replace H := ite_n cc H
        refine g_weak [true, true, true, true, false] ?_
        exact R_J_X3_readSum_33 N rc (L_X3_readSum_8 N rc n) dr hrc ih _ _ _ _ H
      · replace H := ite_p cc H
        refine g_aload_n (T_X3_readSum 13 _ _ _ rfl) rfl ?_
        refine g_bipush (T_X3_readSum 14 _ _ _ rfl) (by decide) ?_
        obtain ⟨y4, h3, hq, H⟩ := bd_some H
        refine g_callVi (M' := M_X10_sees) (c := 41) (av := [.inl 45]) (st := []) (T_X3_readSum 15 _ _ _ rfl) ml_X3_71 cb_X10_sees rfl rfl (Nat.le_of_ble_eq_true rfl) (by omega) (R_X10_sees N _ _ _ hq) ?_
        refine g_if_eq (tgt := 65) (T_X3_readSum 16 _ _ _ rfl) (by decide) (fun cc => ?_) (fun cc => ?_)
        · replace H := ite_p cc H
          exact g_vret (T_X3_readSum 33 _ _ _ rfl) rfl (qv_of H)
        · replace H := ite_n cc H
          refine g_weak [true, true, true, true, false] ?_
          exact R_J_X3_readSum_33 N rc (L_X3_readSum_8 N rc n) dr hrc ih _ _ _ _ H
def O_X3_readSum (N : Nat) (rc : Int → Hp → Option (Hp)) (x2 : Int) (h : Hp) : Option (Hp) :=
  bv (F_X3_readProduct N rc x2 h) fun h1 =>
  L_X3_readSum_8 N rc  N x2 0 h1
set_option maxRecDepth 100000 in
set_option maxHeartbeats 4000000 in
theorem RO_X3_readSum (N : Nat) (rc : Int → Hp → Option (Hp)) (dr : Nat) (hrc : ∀ (a0 : Int) (h : Hp) (res : Hp), rc a0 h = some res → Runs M_X3_readSum dr [.inr 44, .inr 42, .inl a0] h (Qv res)) (x2 : Int) (h : Hp) (res : Hp) (H : O_X3_readSum N rc x2 h = some res) : Runs M_X3_readSum (dr + 11) [.inr 44, .inr 42, .inl x2] h (Qv res) := by
  refine Runs.of rfl (Nat.le_of_ble_eq_true rfl) ?_
  show Go M_X3_readSum (dr + 11) 0 [some (.inr 44), some (.inr 42), some (.inl x2), none, none] [] h (Qv res)
  unfold O_X3_readSum at H
  refine g_aload_n (T_X3_readSum 0 _ _ _ rfl) rfl ?_
  refine g_aload_n (T_X3_readSum 1 _ _ _ rfl) rfl ?_
  refine g_iload_n (T_X3_readSum 2 _ _ _ rfl) rfl ?_
  obtain ⟨h1, hq, H⟩ := bv_some H
  refine g_callVv (M' := M_X3_readProduct) (c := 43) (av := [.inr 42, .inl x2]) (st := []) (T_X3_readSum 3 _ _ _ rfl) ml_X3_68 cb_X3_readProduct rfl rfl (Nat.le_of_ble_eq_true rfl) (by omega) (R_X3_readProduct N rc dr hrc _ _ _ hq) ?_
  refine g_iconst (T_X3_readSum 4 _ _ _ rfl) ⟨by decide, by decide⟩ ?_
  refine g_istore_n (T_X3_readSum 5 _ _ _ rfl) (by decide) ?_
  refine g_weak [true, true, true, true, false] ?_
  refine R_L_X3_readSum_8 N rc  dr hrc  _ _ _ _ _ H
def F_X3_readSum (N : Nat) : Nat → Int → Hp → Option (Hp)
  | 0, _, _ => none
  | D + 1, x2, h => O_X3_readSum N (F_X3_readSum N D) x2 h
set_option maxRecDepth 100000 in
set_option maxHeartbeats 4000000 in
theorem R_X3_readSum (N : Nat) : ∀ (D : Nat) (x2 : Int) (h : Hp) (res : Hp), F_X3_readSum N D x2 h = some res → Runs M_X3_readSum (11 * D + 1) [.inr 44, .inr 42, .inl x2] h (Qv res)
  | 0, _, _, _, H => by cases H
  | D + 1, x2, h, res, H => by
    simp only [F_X3_readSum] at H
    have e : 11 * (D + 1) + 1 = 11 * D + 1 + 11 := by omega
    rw [e]
    exact RO_X3_readSum N (F_X3_readSum N D) (11 * D + 1) (R_X3_readSum N D) _ _ _ H
def F_X2_leadToEnd (N : Nat) (x1 : Int) (h : Hp) : Option (Hp) :=
  bd (F_X11_isWithin N x1 0 (w32 ((h 44 7) - 1)) h) fun y2 h1 =>
  if y2 = 0 then
    some h1
  else
  grd (0 ≤ x1 ∧ x1 < 240) <|
  bnd (hw h1 50 x1.toNat (h1 44 7)) fun h3 =>
  some h3
set_option maxRecDepth 100000 in
set_option maxHeartbeats 4000000 in
theorem R_X2_leadToEnd (N : Nat) (x1 : Int) (h : Hp) (res : Hp) (H : F_X2_leadToEnd N x1 h = some res) : Runs M_X2_leadToEnd 2 [.inr 45, .inl x1] h (Qv res) := by
  refine Runs.of rfl (Nat.le_of_ble_eq_true rfl) ?_
  show Go M_X2_leadToEnd 2 0 [some (.inr 45), some (.inl x1)] [] h (Qv res)
  unfold F_X2_leadToEnd at H
  refine g_iload_n (T_X2_leadToEnd 0 _ _ _ rfl) rfl ?_
  refine g_iconst (T_X2_leadToEnd 1 _ _ _ rfl) ⟨by decide, by decide⟩ ?_
  refine g_aload_n (T_X2_leadToEnd 2 _ _ _ rfl) rfl ?_
  refine g_getI (c := 44) (T_X2_leadToEnd 3 _ _ _ rfl) fl_X2_40 rfl (Or.inl rfl) ?_
  refine g_iconst (T_X2_leadToEnd 4 _ _ _ rfl) ⟨by decide, by decide⟩ ?_
  refine g_isub (T_X2_leadToEnd 5 _ _ _ rfl) ?_
  obtain ⟨y2, h1, hq, H⟩ := bd_some H
  refine g_callSNi (M' := M_X11_isWithin) (av := [.inl x1, .inl 0, .inl (w32 ((h 44 7) - 1))]) (st := []) (T_X2_leadToEnd 6 _ _ _ rfl) ml_X2_43 cb_X11_isWithin rfl (Nat.le_of_ble_eq_true rfl) (by omega) (R_X11_isWithin N _ _ _ _ _ hq) ?_
  refine g_if_eq (tgt := 24) (T_X2_leadToEnd 7 _ _ _ rfl) (by decide) (fun cc => ?_) (fun cc => ?_)
  · replace H := ite_p cc H
    exact g_vret (T_X2_leadToEnd 14 _ _ _ rfl) rfl (qv_of H)
  · replace H := ite_n cc H
    refine g_aload_n (T_X2_leadToEnd 8 _ _ _ rfl) rfl ?_
    refine g_getR (c := 44) (r := 51) (T_X2_leadToEnd 9 _ _ _ rfl) fl_X2_27 rfl (nR rfl) rfl (by decide) ?_
    refine g_iload_n (T_X2_leadToEnd 10 _ _ _ rfl) rfl ?_
    refine g_aload_n (T_X2_leadToEnd 11 _ _ _ rfl) rfl ?_
    refine g_getI (c := 44) (T_X2_leadToEnd 12 _ _ _ rfl) fl_X2_40 rfl (Or.inl rfl) ?_
    obtain ⟨hg, H⟩ := grd_some H
    refine g_iast (c := 50) (T_X2_leadToEnd 13 _ _ _ rfl) rfl hg ?_
    refine g_bndH H fun h3 H => ?_
    exact g_vret (T_X2_leadToEnd 14 _ _ _ rfl) rfl (qv_of H)
def L_X3_readPart_8 (N : Nat) (rc : Int → Hp → Option (Hp)) : Nat → Int → Int → Hp → Option (Hp)
  | 0, _, _, _ => none
  | n + 1, x2, x3, h =>
    if 240 ≤ x3 then
      some h
    else
    bd (F_X10_sees N 38 h) fun y2 h1 =>
    if y2 = 0 then
      some h1
    else
    bd (F_X2_length N h1) fun y4 h3 =>
    bv (F_X2_addSign N 38 0 h3) fun h5 =>
    bv (F_X10_step N h5) fun h6 =>
    bv (rc x2 h6) fun h7 =>
    bv (F_X2_leadToEnd N y4 h7) fun h8 =>
    bnd (w32 (x3 + 1)) fun y9 =>
    (L_X3_readPart_8 N rc n) x2 y9 h8
set_option maxRecDepth 100000 in
set_option maxHeartbeats 4000000 in
theorem R_L_X3_readPart_8 (N : Nat) (rc : Int → Hp → Option (Hp)) (dr : Nat) (hrc : ∀ (a0 : Int) (h : Hp) (res : Hp), rc a0 h = some res → Runs M_X3_readTest dr [.inr 44, .inr 42, .inl a0] h (Qv res)) : ∀ (n : Nat) (x2 : Int) (x3 : Int) (h : Hp) (res : Hp), L_X3_readPart_8 N rc n x2 x3 h = some res → Go M_X3_readPart (dr + 3) 8 [some (.inr 44), some (.inr 42), some (.inl x2), some (.inl x3), none] [] h (Qv res)
  | 0, _, _, _, _, H => by cases H
  | n + 1, x2, x3, h, res, H => by
    have ih := R_L_X3_readPart_8 N rc dr hrc n
    simp only [L_X3_readPart_8] at H
    refine g_iload_n (T_X3_readPart 6 _ _ _ rfl) rfl ?_
    refine g_sipush (T_X3_readPart 7 _ _ _ rfl) (by decide) ?_
    refine g_icmp_ge (tgt := 68) (T_X3_readPart 8 _ _ _ rfl) (by decide) (fun cc => ?_) (fun cc => ?_)
    · replace H := ite_p cc H
      exact g_vret (T_X3_readPart 34 _ _ _ rfl) rfl (qv_of H)
    · replace H := ite_n cc H
      refine g_aload_n (T_X3_readPart 9 _ _ _ rfl) rfl ?_
      refine g_bipush (T_X3_readPart 10 _ _ _ rfl) (by decide) ?_
      obtain ⟨y2, h1, hq, H⟩ := bd_some H
      refine g_callVi (M' := M_X10_sees) (c := 41) (av := [.inl 38]) (st := []) (T_X3_readPart 11 _ _ _ rfl) ml_X3_71 cb_X10_sees rfl rfl (Nat.le_of_ble_eq_true rfl) (by omega) (R_X10_sees N _ _ _ hq) ?_
      refine g_if_eq (tgt := 68) (T_X3_readPart 12 _ _ _ rfl) (by decide) (fun cc => ?_) (fun cc => ?_)
      · replace H := ite_p cc H
        exact g_vret (T_X3_readPart 34 _ _ _ rfl) rfl (qv_of H)
      · replace H := ite_n cc H
        refine g_aload_n (T_X3_readPart 13 _ _ _ rfl) rfl ?_
        refine g_getR (c := 43) (r := 45) (T_X3_readPart 14 _ _ _ rfl) fl_X3_12 rfl (nR rfl) rfl (by decide) ?_
        obtain ⟨y4, h3, hq, H⟩ := bd_some H
        refine g_callVi (M' := M_X2_length) (c := 44) (av := []) (st := []) (T_X3_readPart 15 _ _ _ rfl) ml_X3_54 cb_X2_length rfl rfl (Nat.le_of_ble_eq_true rfl) (by omega) (R_X2_length N _ _ hq) ?_
        refine g_istore (T_X3_readPart 16 _ _ _ rfl) (by decide) ?_
        refine g_aload_n (T_X3_readPart 17 _ _ _ rfl) rfl ?_
        refine g_getR (c := 43) (r := 45) (T_X3_readPart 18 _ _ _ rfl) fl_X3_12 rfl (nR rfl) rfl (by decide) ?_
        refine g_bipush (T_X3_readPart 19 _ _ _ rfl) (by decide) ?_
        refine g_iconst (T_X3_readPart 20 _ _ _ rfl) ⟨by decide, by decide⟩ ?_
        obtain ⟨h5, hq, H⟩ := bv_some H
        refine g_callVv (M' := M_X2_addSign) (c := 44) (av := [.inl 38, .inl 0]) (st := []) (T_X3_readPart 21 _ _ _ rfl) ml_X3_75 cb_X2_addSign rfl rfl (Nat.le_of_ble_eq_true rfl) (by omega) (R_X2_addSign N _ _ _ _ hq) ?_
        refine g_aload_n (T_X3_readPart 22 _ _ _ rfl) rfl ?_
        obtain ⟨h6, hq, H⟩ := bv_some H
        refine g_callVv (M' := M_X10_step) (c := 41) (av := []) (st := []) (T_X3_readPart 23 _ _ _ rfl) ml_X3_51 cb_X10_step rfl rfl (Nat.le_of_ble_eq_true rfl) (by omega) (R_X10_step N _ _ hq) ?_
        refine g_aload_n (T_X3_readPart 24 _ _ _ rfl) rfl ?_
        refine g_aload_n (T_X3_readPart 25 _ _ _ rfl) rfl ?_
        refine g_iload_n (T_X3_readPart 26 _ _ _ rfl) rfl ?_
        obtain ⟨h7, hq, H⟩ := bv_some H
        refine g_callVv (M' := M_X3_readTest) (c := 43) (av := [.inr 42, .inl x2]) (st := []) (T_X3_readPart 27 _ _ _ rfl) ml_X3_113 cb_X3_readTest rfl rfl (Nat.le_of_ble_eq_true rfl) (by omega) (hrc _ _ _ hq) ?_
        refine g_aload_n (T_X3_readPart 28 _ _ _ rfl) rfl ?_
        refine g_getR (c := 43) (r := 45) (T_X3_readPart 29 _ _ _ rfl) fl_X3_12 rfl (nR rfl) rfl (by decide) ?_
        refine g_iload (T_X3_readPart 30 _ _ _ rfl) rfl ?_
        obtain ⟨h8, hq, H⟩ := bv_some H
        refine g_callVv (M' := M_X2_leadToEnd) (c := 44) (av := [.inl y4]) (st := []) (T_X3_readPart 31 _ _ _ rfl) ml_X3_110 cb_X2_leadToEnd rfl rfl (Nat.le_of_ble_eq_true rfl) (by omega) (R_X2_leadToEnd N _ _ _ hq) ?_
        refine g_iincB (T_X3_readPart 32 _ _ _ rfl) rfl (by decide) H fun y9 H => ?_
        refine g_goto (tgt := 8) (T_X3_readPart 33 _ _ _ rfl) (by decide) ?_
        refine g_weak [true, true, true, true, false] ?_
        exact ih _ _ _ _ H
def F_X3_readPart (N : Nat) (rc : Int → Hp → Option (Hp)) (x2 : Int) (h : Hp) : Option (Hp) :=
  bv (rc x2 h) fun h1 =>
  L_X3_readPart_8 N rc  N x2 0 h1
set_option maxRecDepth 100000 in
set_option maxHeartbeats 4000000 in
theorem R_X3_readPart (N : Nat) (rc : Int → Hp → Option (Hp)) (dr : Nat) (hrc : ∀ (a0 : Int) (h : Hp) (res : Hp), rc a0 h = some res → Runs M_X3_readTest dr [.inr 44, .inr 42, .inl a0] h (Qv res)) (x2 : Int) (h : Hp) (res : Hp) (H : F_X3_readPart N rc x2 h = some res) : Runs M_X3_readPart (dr + 3) [.inr 44, .inr 42, .inl x2] h (Qv res) := by
  refine Runs.of rfl (Nat.le_of_ble_eq_true rfl) ?_
  show Go M_X3_readPart (dr + 3) 0 [some (.inr 44), some (.inr 42), some (.inl x2), none, none] [] h (Qv res)
  unfold F_X3_readPart at H
  refine g_aload_n (T_X3_readPart 0 _ _ _ rfl) rfl ?_
  refine g_aload_n (T_X3_readPart 1 _ _ _ rfl) rfl ?_
  refine g_iload_n (T_X3_readPart 2 _ _ _ rfl) rfl ?_
  obtain ⟨h1, hq, H⟩ := bv_some H
  refine g_callVv (M' := M_X3_readTest) (c := 43) (av := [.inr 42, .inl x2]) (st := []) (T_X3_readPart 3 _ _ _ rfl) ml_X3_113 cb_X3_readTest rfl rfl (Nat.le_of_ble_eq_true rfl) (by omega) (hrc _ _ _ hq) ?_
  refine g_iconst (T_X3_readPart 4 _ _ _ rfl) ⟨by decide, by decide⟩ ?_
  refine g_istore_n (T_X3_readPart 5 _ _ _ rfl) (by decide) ?_
  refine g_weak [true, true, true, true, false] ?_
  refine R_L_X3_readPart_8 N rc  dr hrc  _ _ _ _ _ H
def L_X3_readChoice_8 (N : Nat) (rc : Int → Hp → Option (Hp)) : Nat → Int → Int → Hp → Option (Hp)
  | 0, _, _, _ => none
  | n + 1, x2, x3, h =>
    if 240 ≤ x3 then
      some h
    else
    bd (F_X10_sees N 124 h) fun y2 h1 =>
    if y2 = 0 then
      some h1
    else
    bd (F_X2_length N h1) fun y4 h3 =>
    bv (F_X2_addSign N 124 0 h3) fun h5 =>
    bv (F_X10_step N h5) fun h6 =>
    bv (F_X3_readPart N rc x2 h6) fun h7 =>
    bv (F_X2_leadToEnd N y4 h7) fun h8 =>
    bnd (w32 (x3 + 1)) fun y9 =>
    (L_X3_readChoice_8 N rc n) x2 y9 h8
set_option maxRecDepth 100000 in
set_option maxHeartbeats 4000000 in
theorem R_L_X3_readChoice_8 (N : Nat) (rc : Int → Hp → Option (Hp)) (dr : Nat) (hrc : ∀ (a0 : Int) (h : Hp) (res : Hp), rc a0 h = some res → Runs M_X3_readTest dr [.inr 44, .inr 42, .inl a0] h (Qv res)) : ∀ (n : Nat) (x2 : Int) (x3 : Int) (h : Hp) (res : Hp), L_X3_readChoice_8 N rc n x2 x3 h = some res → Go M_X3_readChoice (dr + 4) 8 [some (.inr 44), some (.inr 42), some (.inl x2), some (.inl x3), none] [] h (Qv res)
  | 0, _, _, _, _, H => by cases H
  | n + 1, x2, x3, h, res, H => by
    have ih := R_L_X3_readChoice_8 N rc dr hrc n
    simp only [L_X3_readChoice_8] at H
    refine g_iload_n (T_X3_readChoice 6 _ _ _ rfl) rfl ?_
    refine g_sipush (T_X3_readChoice 7 _ _ _ rfl) (by decide) ?_
    refine g_icmp_ge (tgt := 68) (T_X3_readChoice 8 _ _ _ rfl) (by decide) (fun cc => ?_) (fun cc => ?_)
    · replace H := ite_p cc H
      exact g_vret (T_X3_readChoice 34 _ _ _ rfl) rfl (qv_of H)
    · replace H := ite_n cc H
      refine g_aload_n (T_X3_readChoice 9 _ _ _ rfl) rfl ?_
      refine g_bipush (T_X3_readChoice 10 _ _ _ rfl) (by decide) ?_
      obtain ⟨y2, h1, hq, H⟩ := bd_some H
      refine g_callVi (M' := M_X10_sees) (c := 41) (av := [.inl 124]) (st := []) (T_X3_readChoice 11 _ _ _ rfl) ml_X3_71 cb_X10_sees rfl rfl (Nat.le_of_ble_eq_true rfl) (by omega) (R_X10_sees N _ _ _ hq) ?_
      refine g_if_eq (tgt := 68) (T_X3_readChoice 12 _ _ _ rfl) (by decide) (fun cc => ?_) (fun cc => ?_)
      · replace H := ite_p cc H
        exact g_vret (T_X3_readChoice 34 _ _ _ rfl) rfl (qv_of H)
      · replace H := ite_n cc H
        refine g_aload_n (T_X3_readChoice 13 _ _ _ rfl) rfl ?_
        refine g_getR (c := 43) (r := 45) (T_X3_readChoice 14 _ _ _ rfl) fl_X3_12 rfl (nR rfl) rfl (by decide) ?_
        obtain ⟨y4, h3, hq, H⟩ := bd_some H
        refine g_callVi (M' := M_X2_length) (c := 44) (av := []) (st := []) (T_X3_readChoice 15 _ _ _ rfl) ml_X3_54 cb_X2_length rfl rfl (Nat.le_of_ble_eq_true rfl) (by omega) (R_X2_length N _ _ hq) ?_
        refine g_istore (T_X3_readChoice 16 _ _ _ rfl) (by decide) ?_
        refine g_aload_n (T_X3_readChoice 17 _ _ _ rfl) rfl ?_
        refine g_getR (c := 43) (r := 45) (T_X3_readChoice 18 _ _ _ rfl) fl_X3_12 rfl (nR rfl) rfl (by decide) ?_
        refine g_bipush (T_X3_readChoice 19 _ _ _ rfl) (by decide) ?_
        refine g_iconst (T_X3_readChoice 20 _ _ _ rfl) ⟨by decide, by decide⟩ ?_
        obtain ⟨h5, hq, H⟩ := bv_some H
        refine g_callVv (M' := M_X2_addSign) (c := 44) (av := [.inl 124, .inl 0]) (st := []) (T_X3_readChoice 21 _ _ _ rfl) ml_X3_75 cb_X2_addSign rfl rfl (Nat.le_of_ble_eq_true rfl) (by omega) (R_X2_addSign N _ _ _ _ hq) ?_
        refine g_aload_n (T_X3_readChoice 22 _ _ _ rfl) rfl ?_
        obtain ⟨h6, hq, H⟩ := bv_some H
        refine g_callVv (M' := M_X10_step) (c := 41) (av := []) (st := []) (T_X3_readChoice 23 _ _ _ rfl) ml_X3_51 cb_X10_step rfl rfl (Nat.le_of_ble_eq_true rfl) (by omega) (R_X10_step N _ _ hq) ?_
        refine g_aload_n (T_X3_readChoice 24 _ _ _ rfl) rfl ?_
        refine g_aload_n (T_X3_readChoice 25 _ _ _ rfl) rfl ?_
        refine g_iload_n (T_X3_readChoice 26 _ _ _ rfl) rfl ?_
        obtain ⟨h7, hq, H⟩ := bv_some H
        refine g_callVv (M' := M_X3_readPart) (c := 43) (av := [.inr 42, .inl x2]) (st := []) (T_X3_readChoice 27 _ _ _ rfl) ml_X3_107 cb_X3_readPart rfl rfl (Nat.le_of_ble_eq_true rfl) (by omega) (R_X3_readPart N rc dr hrc _ _ _ hq) ?_
        refine g_aload_n (T_X3_readChoice 28 _ _ _ rfl) rfl ?_
        refine g_getR (c := 43) (r := 45) (T_X3_readChoice 29 _ _ _ rfl) fl_X3_12 rfl (nR rfl) rfl (by decide) ?_
        refine g_iload (T_X3_readChoice 30 _ _ _ rfl) rfl ?_
        obtain ⟨h8, hq, H⟩ := bv_some H
        refine g_callVv (M' := M_X2_leadToEnd) (c := 44) (av := [.inl y4]) (st := []) (T_X3_readChoice 31 _ _ _ rfl) ml_X3_110 cb_X2_leadToEnd rfl rfl (Nat.le_of_ble_eq_true rfl) (by omega) (R_X2_leadToEnd N _ _ _ hq) ?_
        refine g_iincB (T_X3_readChoice 32 _ _ _ rfl) rfl (by decide) H fun y9 H => ?_
        refine g_goto (tgt := 8) (T_X3_readChoice 33 _ _ _ rfl) (by decide) ?_
        refine g_weak [true, true, true, true, false] ?_
        exact ih _ _ _ _ H
def F_X3_readChoice (N : Nat) (rc : Int → Hp → Option (Hp)) (x2 : Int) (h : Hp) : Option (Hp) :=
  bv (F_X3_readPart N rc x2 h) fun h1 =>
  L_X3_readChoice_8 N rc  N x2 0 h1
set_option maxRecDepth 100000 in
set_option maxHeartbeats 4000000 in
theorem R_X3_readChoice (N : Nat) (rc : Int → Hp → Option (Hp)) (dr : Nat) (hrc : ∀ (a0 : Int) (h : Hp) (res : Hp), rc a0 h = some res → Runs M_X3_readTest dr [.inr 44, .inr 42, .inl a0] h (Qv res)) (x2 : Int) (h : Hp) (res : Hp) (H : F_X3_readChoice N rc x2 h = some res) : Runs M_X3_readChoice (dr + 4) [.inr 44, .inr 42, .inl x2] h (Qv res) := by
  refine Runs.of rfl (Nat.le_of_ble_eq_true rfl) ?_
  show Go M_X3_readChoice (dr + 4) 0 [some (.inr 44), some (.inr 42), some (.inl x2), none, none] [] h (Qv res)
  unfold F_X3_readChoice at H
  refine g_aload_n (T_X3_readChoice 0 _ _ _ rfl) rfl ?_
  refine g_aload_n (T_X3_readChoice 1 _ _ _ rfl) rfl ?_
  refine g_iload_n (T_X3_readChoice 2 _ _ _ rfl) rfl ?_
  obtain ⟨h1, hq, H⟩ := bv_some H
  refine g_callVv (M' := M_X3_readPart) (c := 43) (av := [.inr 42, .inl x2]) (st := []) (T_X3_readChoice 3 _ _ _ rfl) ml_X3_107 cb_X3_readPart rfl rfl (Nat.le_of_ble_eq_true rfl) (by omega) (R_X3_readPart N rc dr hrc _ _ _ hq) ?_
  refine g_iconst (T_X3_readChoice 4 _ _ _ rfl) ⟨by decide, by decide⟩ ?_
  refine g_istore_n (T_X3_readChoice 5 _ _ _ rfl) (by decide) ?_
  refine g_weak [true, true, true, true, false] ?_
  refine R_L_X3_readChoice_8 N rc  dr hrc  _ _ _ _ _ H
def J_X3_readComparison_39 (N : Nat) (x2 : Int) (h : Hp) : Option (Hp) :=
  bd (F_X10_sign N h) fun y2 h1 =>
  bv (F_X10_step N h1) fun h3 =>
  bv (F_X3_readSum N 8 x2 h3) fun h4 =>
  bv (F_X2_addSign N y2 0 h4) fun h5 =>
  some h5
set_option maxRecDepth 100000 in
set_option maxHeartbeats 4000000 in
theorem R_J_X3_readComparison_39 (N : Nat) (x2 : Int) (h : Hp) (res : Hp) (H : J_X3_readComparison_39 N x2 h = some res) : Go M_X3_readComparison 90 39 [some (.inr 44), some (.inr 42), some (.inl x2), none] [] h (Qv res) := by
  unfold J_X3_readComparison_39 at H
  refine g_aload_n (T_X3_readComparison 20 _ _ _ rfl) rfl ?_
  obtain ⟨y2, h1, hq, H⟩ := bd_some H
  refine g_callVi (M' := M_X10_sign) (c := 41) (av := []) (st := []) (T_X3_readComparison 21 _ _ _ rfl) ml_X3_45 cb_X10_sign rfl rfl (Nat.le_of_ble_eq_true rfl) (by omega) (R_X10_sign N _ _ hq) ?_
  refine g_istore_n (T_X3_readComparison 22 _ _ _ rfl) (by decide) ?_
  refine g_aload_n (T_X3_readComparison 23 _ _ _ rfl) rfl ?_
  obtain ⟨h3, hq, H⟩ := bv_some H
  refine g_callVv (M' := M_X10_step) (c := 41) (av := []) (st := []) (T_X3_readComparison 24 _ _ _ rfl) ml_X3_51 cb_X10_step rfl rfl (Nat.le_of_ble_eq_true rfl) (by omega) (R_X10_step N _ _ hq) ?_
  refine g_aload_n (T_X3_readComparison 25 _ _ _ rfl) rfl ?_
  refine g_aload_n (T_X3_readComparison 26 _ _ _ rfl) rfl ?_
  refine g_iload_n (T_X3_readComparison 27 _ _ _ rfl) rfl ?_
  obtain ⟨h4, hq, H⟩ := bv_some H
  refine g_callVv (M' := M_X3_readSum) (c := 43) (av := [.inr 42, .inl x2]) (st := []) (T_X3_readComparison 28 _ _ _ rfl) ml_X3_57 cb_X3_readSum rfl rfl (Nat.le_of_ble_eq_true rfl) (by omega) (R_X3_readSum N  8 _ _ _ hq) ?_
  refine g_aload_n (T_X3_readComparison 29 _ _ _ rfl) rfl ?_
  refine g_getR (c := 43) (r := 45) (T_X3_readComparison 30 _ _ _ rfl) fl_X3_12 rfl (nR rfl) rfl (by decide) ?_
  refine g_iload_n (T_X3_readComparison 31 _ _ _ rfl) rfl ?_
  refine g_iconst (T_X3_readComparison 32 _ _ _ rfl) ⟨by decide, by decide⟩ ?_
  obtain ⟨h5, hq, H⟩ := bv_some H
  refine g_callVv (M' := M_X2_addSign) (c := 44) (av := [.inl y2, .inl 0]) (st := []) (T_X3_readComparison 33 _ _ _ rfl) ml_X3_75 cb_X2_addSign rfl rfl (Nat.le_of_ble_eq_true rfl) (by omega) (R_X2_addSign N _ _ _ _ hq) ?_
  exact g_vret (T_X3_readComparison 34 _ _ _ rfl) rfl (qv_of H)
def F_X3_readComparison (N : Nat) (x2 : Int) (h : Hp) : Option (Hp) :=
  bv (F_X3_readSum N 8 x2 h) fun h1 =>
  bd (F_X10_sees N 60 h1) fun y3 h2 =>
  if y3 = 0 then
    bd (F_X10_sees N 62 h2) fun y5 h4 =>
    if y5 = 0 then
      bd (F_X10_sees N 61 h4) fun y7 h6 =>
      if y7 = 0 then
        bv (F_X10_fail N 1 h6) fun h8 =>
        some h8
      else
      J_X3_readComparison_39 N  x2 h6
    else
    J_X3_readComparison_39 N  x2 h4
  else
  J_X3_readComparison_39 N  x2 h2
set_option maxRecDepth 100000 in
set_option maxHeartbeats 4000000 in
theorem R_X3_readComparison (N : Nat) (x2 : Int) (h : Hp) (res : Hp) (H : F_X3_readComparison N x2 h = some res) : Runs M_X3_readComparison 90 [.inr 44, .inr 42, .inl x2] h (Qv res) := by
  refine Runs.of rfl (Nat.le_of_ble_eq_true rfl) ?_
  show Go M_X3_readComparison 90 0 [some (.inr 44), some (.inr 42), some (.inl x2), none] [] h (Qv res)
  unfold F_X3_readComparison at H
  refine g_aload_n (T_X3_readComparison 0 _ _ _ rfl) rfl ?_
  refine g_aload_n (T_X3_readComparison 1 _ _ _ rfl) rfl ?_
  refine g_iload_n (T_X3_readComparison 2 _ _ _ rfl) rfl ?_
  obtain ⟨h1, hq, H⟩ := bv_some H
  refine g_callVv (M' := M_X3_readSum) (c := 43) (av := [.inr 42, .inl x2]) (st := []) (T_X3_readComparison 3 _ _ _ rfl) ml_X3_57 cb_X3_readSum rfl rfl (Nat.le_of_ble_eq_true rfl) (by omega) (R_X3_readSum N  8 _ _ _ hq) ?_
  refine g_aload_n (T_X3_readComparison 4 _ _ _ rfl) rfl ?_
  refine g_bipush (T_X3_readComparison 5 _ _ _ rfl) (by decide) ?_
  obtain ⟨y3, h2, hq, H⟩ := bd_some H
  refine g_callVi (M' := M_X10_sees) (c := 41) (av := [.inl 60]) (st := []) (T_X3_readComparison 6 _ _ _ rfl) ml_X3_71 cb_X10_sees rfl rfl (Nat.le_of_ble_eq_true rfl) (by omega) (R_X10_sees N _ _ _ hq) ?_
  refine g_if_ne (tgt := 39) (T_X3_readComparison 7 _ _ _ rfl) (by decide) (fun cc => ?_) (fun cc => ?_)
  · replace H := ite_n cc H
    refine g_weak [true, true, true, false] ?_
    exact R_J_X3_readComparison_39 N   _ _ _ H
  · replace H := ite_p cc H
    refine g_aload_n (T_X3_readComparison 8 _ _ _ rfl) rfl ?_
    refine g_bipush (T_X3_readComparison 9 _ _ _ rfl) (by decide) ?_
    obtain ⟨y5, h4, hq, H⟩ := bd_some H
    refine g_callVi (M' := M_X10_sees) (c := 41) (av := [.inl 62]) (st := []) (T_X3_readComparison 10 _ _ _ rfl) ml_X3_71 cb_X10_sees rfl rfl (Nat.le_of_ble_eq_true rfl) (by omega) (R_X10_sees N _ _ _ hq) ?_
    refine g_if_ne (tgt := 39) (T_X3_readComparison 11 _ _ _ rfl) (by decide) (fun cc => ?_) (fun cc => ?_)
    · replace H := ite_n cc H
      refine g_weak [true, true, true, false] ?_
      exact R_J_X3_readComparison_39 N   _ _ _ H
    · replace H := ite_p cc H
      refine g_aload_n (T_X3_readComparison 12 _ _ _ rfl) rfl ?_
      refine g_bipush (T_X3_readComparison 13 _ _ _ rfl) (by decide) ?_
      obtain ⟨y7, h6, hq, H⟩ := bd_some H
      refine g_callVi (M' := M_X10_sees) (c := 41) (av := [.inl 61]) (st := []) (T_X3_readComparison 14 _ _ _ rfl) ml_X3_71 cb_X10_sees rfl rfl (Nat.le_of_ble_eq_true rfl) (by omega) (R_X10_sees N _ _ _ hq) ?_
      refine g_if_ne (tgt := 39) (T_X3_readComparison 15 _ _ _ rfl) (by decide) (fun cc => ?_) (fun cc => ?_)
      · replace H := ite_n cc H
        refine g_weak [true, true, true, false] ?_
        exact R_J_X3_readComparison_39 N   _ _ _ H
      · replace H := ite_p cc H
        refine g_aload_n (T_X3_readComparison 16 _ _ _ rfl) rfl ?_
        refine g_iconst (T_X3_readComparison 17 _ _ _ rfl) ⟨by decide, by decide⟩ ?_
        obtain ⟨h8, hq, H⟩ := bv_some H
        refine g_callVv (M' := M_X10_fail) (c := 41) (av := [.inl 1]) (st := []) (T_X3_readComparison 18 _ _ _ rfl) ml_X3_48 cb_X10_fail rfl rfl (Nat.le_of_ble_eq_true rfl) (by omega) (R_X10_fail N _ _ _ hq) ?_
        exact g_vret (T_X3_readComparison 19 _ _ _ rfl) rfl (qv_of H)
def F_X3_readNegation (N : Nat) (rc : Int → Hp → Option (Hp)) (x2 : Int) (h : Hp) : Option (Hp) :=
  bd (F_X3_opens N x2 h) fun y2 h1 =>
  if y2 = 0 then
    some h1
  else
  bv (rc (w32 (x2 + 1)) h1) fun h3 =>
  bv (F_X2_addSign N 33 0 h3) fun h4 =>
  some h4
set_option maxRecDepth 100000 in
set_option maxHeartbeats 4000000 in
theorem R_X3_readNegation (N : Nat) (rc : Int → Hp → Option (Hp)) (dr : Nat) (hrc : ∀ (a0 : Int) (h : Hp) (res : Hp), rc a0 h = some res → Runs M_X3_readTest dr [.inr 44, .inr 42, .inl a0] h (Qv res)) (x2 : Int) (h : Hp) (res : Hp) (H : F_X3_readNegation N rc x2 h = some res) : Runs M_X3_readNegation (dr + 3) [.inr 44, .inr 42, .inl x2] h (Qv res) := by
  refine Runs.of rfl (Nat.le_of_ble_eq_true rfl) ?_
  show Go M_X3_readNegation (dr + 3) 0 [some (.inr 44), some (.inr 42), some (.inl x2)] [] h (Qv res)
  unfold F_X3_readNegation at H
  refine g_aload_n (T_X3_readNegation 0 _ _ _ rfl) rfl ?_
  refine g_aload_n (T_X3_readNegation 1 _ _ _ rfl) rfl ?_
  refine g_iload_n (T_X3_readNegation 2 _ _ _ rfl) rfl ?_
  obtain ⟨y2, h1, hq, H⟩ := bd_some H
  refine g_callVi (M' := M_X3_opens) (c := 43) (av := [.inr 42, .inl x2]) (st := []) (T_X3_readNegation 3 _ _ _ rfl) ml_X3_86 cb_X3_opens rfl rfl (Nat.le_of_ble_eq_true rfl) (by omega) (R_X3_opens N _ _ _ hq) ?_
  refine g_if_eq (tgt := 27) (T_X3_readNegation 4 _ _ _ rfl) (by decide) (fun cc => ?_) (fun cc => ?_)
  · replace H := ite_p cc H
    exact g_vret (T_X3_readNegation 16 _ _ _ rfl) rfl (qv_of H)
  · replace H := ite_n cc H
    refine g_aload_n (T_X3_readNegation 5 _ _ _ rfl) rfl ?_
    refine g_aload_n (T_X3_readNegation 6 _ _ _ rfl) rfl ?_
    refine g_iload_n (T_X3_readNegation 7 _ _ _ rfl) rfl ?_
    refine g_iconst (T_X3_readNegation 8 _ _ _ rfl) ⟨by decide, by decide⟩ ?_
    refine g_iadd (T_X3_readNegation 9 _ _ _ rfl) ?_
    obtain ⟨h3, hq, H⟩ := bv_some H
    refine g_callVv (M' := M_X3_readTest) (c := 43) (av := [.inr 42, .inl (w32 (x2 + 1))]) (st := []) (T_X3_readNegation 10 _ _ _ rfl) ml_X3_113 cb_X3_readTest rfl rfl (Nat.le_of_ble_eq_true rfl) (by omega) (hrc _ _ _ hq) ?_
    refine g_aload_n (T_X3_readNegation 11 _ _ _ rfl) rfl ?_
    refine g_getR (c := 43) (r := 45) (T_X3_readNegation 12 _ _ _ rfl) fl_X3_12 rfl (nR rfl) rfl (by decide) ?_
    refine g_bipush (T_X3_readNegation 13 _ _ _ rfl) (by decide) ?_
    refine g_iconst (T_X3_readNegation 14 _ _ _ rfl) ⟨by decide, by decide⟩ ?_
    obtain ⟨h4, hq, H⟩ := bv_some H
    refine g_callVv (M' := M_X2_addSign) (c := 44) (av := [.inl 33, .inl 0]) (st := []) (T_X3_readNegation 15 _ _ _ rfl) ml_X3_75 cb_X2_addSign rfl rfl (Nat.le_of_ble_eq_true rfl) (by omega) (R_X2_addSign N _ _ _ _ hq) ?_
    exact g_vret (T_X3_readNegation 16 _ _ _ rfl) rfl (qv_of H)
