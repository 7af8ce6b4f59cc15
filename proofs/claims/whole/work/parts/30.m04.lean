/-! by program: the methods as functions, and the walks that show it -/
def J_X12_sleepful_220 (N : Nat) (k147 : Int → Int → Int → Int → Int → Int → Int → Int → Int → Int → Int → Hp → Option (Int × Hp)) (x1 : Int) (x3 : Int) (x4 : Int) (x5 : Int) (x6 : Int) (x7 : Int) (x8 : Int) (x9 : Int) (x10 : Int) (x11 : Int) (x12 : Int) (h : Hp) : Option (Int × Hp) :=
  bnd (w32 (x12 + 1)) fun y1 =>
  k147 x1 x3 x4 x5 x6 x7 x8 x9 x10 x11 y1 h
set_option maxRecDepth 100000 in
set_option maxHeartbeats 4000000 in
theorem R_J_X12_sleepful_220 (N : Nat) (k147 : Int → Int → Int → Int → Int → Int → Int → Int → Int → Int → Int → Hp → Option (Int × Hp)) (hk147 : ∀ (x1 : Int) (x3 : Int) (x4 : Int) (x5 : Int) (x6 : Int) (x7 : Int) (x8 : Int) (x9 : Int) (x10 : Int) (x11 : Int) (x12 : Int) (h : Hp) (res : Int × Hp), k147 x1 x3 x4 x5 x6 x7 x8 x9 x10 x11 x12 h = some res → Go M_X12_sleepful 5 147 [some (.inr 84), some (.inl x1), none, some (.inl x3), some (.inl x4), some (.inl x5), some (.inl x6), some (.inl x7), some (.inl x8), some (.inl x9), some (.inl x10), some (.inl x11), some (.inl x12)] [] h (Qi res)) (x1 : Int) (x3 : Int) (x4 : Int) (x5 : Int) (x6 : Int) (x7 : Int) (x8 : Int) (x9 : Int) (x10 : Int) (x11 : Int) (x12 : Int) (h : Hp) (res : Int × Hp) (H : J_X12_sleepful_220 N k147 x1 x3 x4 x5 x6 x7 x8 x9 x10 x11 x12 h = some res) : Go M_X12_sleepful 5 220 [some (.inr 84), some (.inl x1), none, some (.inl x3), some (.inl x4), some (.inl x5), some (.inl x6), some (.inl x7), some (.inl x8), some (.inl x9), some (.inl x10), some (.inl x11), some (.inl x12)] [] h (Qi res) := by
  unfold J_X12_sleepful_220 at H
  refine g_iincB (T_X12_sleepful 123 _ _ _ rfl) rfl (by decide) H fun y1 H => ?_
  refine g_goto (tgt := 147) (T_X12_sleepful 124 _ _ _ rfl) (by decide) ?_
  refine g_weak [true, true, false, true, true, true, true, true, true, true, true, true, true] ?_
  exact hk147 _ _ _ _ _ _ _ _ _ _ _ _ _ H
def J_X12_sleepful_177 (N : Nat) (k147 : Int → Int → Int → Int → Int → Int → Int → Int → Int → Int → Int → Hp → Option (Int × Hp)) (x1 : Int) (x3 : Int) (x4 : Int) (x5 : Int) (x6 : Int) (x7 : Int) (x8 : Int) (x9 : Int) (x10 : Int) (x11 : Int) (x12 : Int) (h : Hp) : Option (Int × Hp) :=
  grd (0 ≤ x12 ∧ x12 < 8) <|
  grd (0 ≤ (h 118 x12.toNat) ∧ (h 118 x12.toNat) < 14) <|
  bnd ((w32 (x9 + (h 87 (h 118 x12.toNat).toNat)))) fun y1 =>
  grd (0 ≤ x12 ∧ x12 < 8) <|
  bnd ((w32 (x10 + (h 119 x12.toNat)))) fun y2 =>
  grd (0 ≤ x12 ∧ x12 < 8) <|
  bnd ((ior x11 (ishl 1 (h 118 x12.toNat)))) fun y3 =>
  J_X12_sleepful_220 N k147 x1 x3 x4 x5 x6 x7 x8 y1 y2 y3 x12 h
set_option maxRecDepth 100000 in
set_option maxHeartbeats 4000000 in
theorem R_J_X12_sleepful_177 (N : Nat) (k147 : Int → Int → Int → Int → Int → Int → Int → Int → Int → Int → Int → Hp → Option (Int × Hp)) (hk147 : ∀ (x1 : Int) (x3 : Int) (x4 : Int) (x5 : Int) (x6 : Int) (x7 : Int) (x8 : Int) (x9 : Int) (x10 : Int) (x11 : Int) (x12 : Int) (h : Hp) (res : Int × Hp), k147 x1 x3 x4 x5 x6 x7 x8 x9 x10 x11 x12 h = some res → Go M_X12_sleepful 5 147 [some (.inr 84), some (.inl x1), none, some (.inl x3), some (.inl x4), some (.inl x5), some (.inl x6), some (.inl x7), some (.inl x8), some (.inl x9), some (.inl x10), some (.inl x11), some (.inl x12)] [] h (Qi res)) (x1 : Int) (x3 : Int) (x4 : Int) (x5 : Int) (x6 : Int) (x7 : Int) (x8 : Int) (x9 : Int) (x10 : Int) (x11 : Int) (x12 : Int) (h : Hp) (res : Int × Hp) (H : J_X12_sleepful_177 N k147 x1 x3 x4 x5 x6 x7 x8 x9 x10 x11 x12 h = some res) : Go M_X12_sleepful 5 177 [some (.inr 84), some (.inl x1), none, some (.inl x3), some (.inl x4), some (.inl x5), some (.inl x6), some (.inl x7), some (.inl x8), some (.inl x9), some (.inl x10), some (.inl x11), some (.inl x12)] [] h (Qi res) := by
  unfold J_X12_sleepful_177 at H
  refine g_iload (T_X12_sleepful 97 _ _ _ rfl) rfl ?_
  refine g_aload_n (T_X12_sleepful 98 _ _ _ rfl) rfl ?_
  refine g_getR (c := 83) (r := 88) (T_X12_sleepful 99 _ _ _ rfl) fl_X12_19 rfl (nR rfl) rfl (by decide) ?_
  refine g_aload_n (T_X12_sleepful 100 _ _ _ rfl) rfl ?_
  refine g_getR (c := 83) (r := 119) (T_X12_sleepful 101 _ _ _ rfl) fl_X12_113 rfl (nR rfl) rfl (by decide) ?_
  refine g_iload (T_X12_sleepful 102 _ _ _ rfl) rfl ?_
  obtain ⟨hg, H⟩ := grd_some H
  refine g_iald (c := 118) (T_X12_sleepful 103 _ _ _ rfl) rfl hg ?_
  obtain ⟨hg, H⟩ := grd_some H
  refine g_iald (c := 87) (T_X12_sleepful 104 _ _ _ rfl) rfl hg ?_
  refine g_iadd (T_X12_sleepful 105 _ _ _ rfl) ?_
  refine g_bndI H fun y1 H => ?_
  refine g_istore (T_X12_sleepful 106 _ _ _ rfl) (by decide) ?_
  refine g_iload (T_X12_sleepful 107 _ _ _ rfl) rfl ?_
  refine g_aload_n (T_X12_sleepful 108 _ _ _ rfl) rfl ?_
  refine g_getR (c := 83) (r := 120) (T_X12_sleepful 109 _ _ _ rfl) fl_X12_116 rfl (nR rfl) rfl (by decide) ?_
  refine g_iload (T_X12_sleepful 110 _ _ _ rfl) rfl ?_
  obtain ⟨hg, H⟩ := grd_some H
  refine g_iald (c := 119) (T_X12_sleepful 111 _ _ _ rfl) rfl hg ?_
  refine g_iadd (T_X12_sleepful 112 _ _ _ rfl) ?_
  refine g_bndI H fun y2 H => ?_
  refine g_istore (T_X12_sleepful 113 _ _ _ rfl) (by decide) ?_
  refine g_iload (T_X12_sleepful 114 _ _ _ rfl) rfl ?_
  refine g_iconst (T_X12_sleepful 115 _ _ _ rfl) ⟨by decide, by decide⟩ ?_
  refine g_aload_n (T_X12_sleepful 116 _ _ _ rfl) rfl ?_
  refine g_getR (c := 83) (r := 119) (T_X12_sleepful 117 _ _ _ rfl) fl_X12_113 rfl (nR rfl) rfl (by decide) ?_
  refine g_iload (T_X12_sleepful 118 _ _ _ rfl) rfl ?_
  obtain ⟨hg, H⟩ := grd_some H
  refine g_iald (c := 118) (T_X12_sleepful 119 _ _ _ rfl) rfl hg ?_
  refine g_ishl (T_X12_sleepful 120 _ _ _ rfl) ?_
  refine g_ior (T_X12_sleepful 121 _ _ _ rfl) ?_
  refine g_bndI H fun y3 H => ?_
  refine g_istore (T_X12_sleepful 122 _ _ _ rfl) (by decide) ?_
  refine g_weak [true, true, false, true, true, true, true, true, true, true, true, true, true] ?_
  exact R_J_X12_sleepful_220 N k147 hk147 _ _ _ _ _ _ _ _ _ _ _ _ _ H
def L_X12_sleepful_147 (N : Nat) (k226 : Int → Int → Int → Int → Int → Int → Int → Int → Int → Int → Hp → Option (Int × Hp)) : Nat → Int → Int → Int → Int → Int → Int → Int → Int → Int → Int → Int → Hp → Option (Int × Hp)
  | 0, _, _, _, _, _, _, _, _, _, _, _, _ => none
  | n + 1, x1, x3, x4, x5, x6, x7, x8, x9, x10, x11, x12, h =>
    if x4 ≤ x12 then
      k226 x1 x3 x4 x5 x6 x7 x8 x9 x10 x11 h
    else
    bd (F_X12_has N x8 x12 h) fun y2 h1 =>
    if y2 = 0 then
      grd (0 ≤ x12 ∧ x12 < 8) <|
      if (h1 119 x12.toNat) ≤ 0 then
        J_X12_sleepful_177 N (L_X12_sleepful_147 N k226 n) x1 x3 x4 x5 x6 x7 x8 x9 x10 x11 x12 h1
      else
      J_X12_sleepful_220 N (L_X12_sleepful_147 N k226 n) x1 x3 x4 x5 x6 x7 x8 x9 x10 x11 x12 h1
    else
    J_X12_sleepful_177 N (L_X12_sleepful_147 N k226 n) x1 x3 x4 x5 x6 x7 x8 x9 x10 x11 x12 h1
set_option maxRecDepth 100000 in
set_option maxHeartbeats 4000000 in
theorem R_L_X12_sleepful_147 (N : Nat) (k226 : Int → Int → Int → Int → Int → Int → Int → Int → Int → Int → Hp → Option (Int × Hp)) (hk226 : ∀ (x1 : Int) (x3 : Int) (x4 : Int) (x5 : Int) (x6 : Int) (x7 : Int) (x8 : Int) (x9 : Int) (x10 : Int) (x11 : Int) (h : Hp) (res : Int × Hp), k226 x1 x3 x4 x5 x6 x7 x8 x9 x10 x11 h = some res → Go M_X12_sleepful 5 226 [some (.inr 84), some (.inl x1), none, some (.inl x3), some (.inl x4), some (.inl x5), some (.inl x6), some (.inl x7), some (.inl x8), some (.inl x9), some (.inl x10), some (.inl x11), none] [] h (Qi res)) : ∀ (n : Nat) (x1 : Int) (x3 : Int) (x4 : Int) (x5 : Int) (x6 : Int) (x7 : Int) (x8 : Int) (x9 : Int) (x10 : Int) (x11 : Int) (x12 : Int) (h : Hp) (res : Int × Hp), L_X12_sleepful_147 N k226 n x1 x3 x4 x5 x6 x7 x8 x9 x10 x11 x12 h = some res → Go M_X12_sleepful 5 147 [some (.inr 84), some (.inl x1), none, some (.inl x3), some (.inl x4), some (.inl x5), some (.inl x6), some (.inl x7), some (.inl x8), some (.inl x9), some (.inl x10), some (.inl x11), some (.inl x12)] [] h (Qi res)
  | 0, _, _, _, _, _, _, _, _, _, _, _, _, _, H => by cases H
  | n + 1, x1, x3, x4, x5, x6, x7, x8, x9, x10, x11, x12, h, res, H => by
    have ih := R_L_X12_sleepful_147 N k226 hk226 n
    simp only [L_X12_sleepful_147] at H
    refine g_iload (T_X12_sleepful 84 _ _ _ rfl) rfl ?_
    refine g_iload (T_X12_sleepful 85 _ _ _ rfl) rfl ?_
    refine g_icmp_ge (tgt := 226) (T_X12_sleepful 86 _ _ _ rfl) (by decide) (fun cc => ?_) (fun cc => ?_)
    · replace H := ite_p cc H
      refine g_weak [true, true, false, true, true, true, true, true, true, true, true, true, false] ?_
      exact hk226 _ _ _ _ _ _ _ _ _ _ _ _ H
    · replace H := ite_n cc H
      refine g_iload (T_X12_sleepful 87 _ _ _ rfl) rfl ?_
      refine g_iload (T_X12_sleepful 88 _ _ _ rfl) rfl ?_
      obtain ⟨y2, h1, hq, H⟩ := bd_some H
      refine g_callSi (M' := M_X12_has) (av := [.inl x8, .inl x12]) (st := []) (T_X12_sleepful 89 _ _ _ rfl) ml_X12_139 cb_X12_has rfl (Nat.le_of_ble_eq_true rfl) (by omega) (R_X12_has N _ _ _ _ hq) ?_
      refine g_if_ne (tgt := 177) (T_X12_sleepful 90 _ _ _ rfl) (by decide) (fun cc => ?_) (fun cc => ?_)
      · replace H := ite_n cc H
        refine g_weak [true, true, false, true, true, true, true, true, true, true, true, true, true] ?_
        exact R_J_X12_sleepful_177 N (L_X12_sleepful_147 N k226 n) ih _ _ _ _ _ _ _ _ _ _ _ _ _ H
      · replace H := ite_p cc H
        refine g_aload_n (T_X12_sleepful 91 _ _ _ rfl) rfl ?_
        refine g_getR (c := 83) (r := 120) (T_X12_sleepful 92 _ _ _ rfl) fl_X12_116 rfl (nR rfl) rfl (by decide) ?_
        refine g_iload (T_X12_sleepful 93 _ _ _ rfl) rfl ?_
        obtain ⟨hg, H⟩ := grd_some H
        refine g_iald (c := 119) (T_X12_sleepful 94 _ _ _ rfl) rfl hg ?_
        refine g_if_le (tgt := 177) (T_X12_sleepful 95 _ _ _ rfl) (by decide) (fun cc => ?_) (fun cc => ?_)
        · replace H := ite_p cc H
          refine g_weak [true, true, false, true, true, true, true, true, true, true, true, true, true] ?_
          exact R_J_X12_sleepful_177 N (L_X12_sleepful_147 N k226 n) ih _ _ _ _ _ _ _ _ _ _ _ _ _ H
        · replace H := ite_n cc H
          refine g_goto (tgt := 220) (T_X12_sleepful 96 _ _ _ rfl) (by decide) ?_
          refine g_weak [true, true, false, true, true, true, true, true, true, true, true, true, true] ?_
          exact R_J_X12_sleepful_220 N (L_X12_sleepful_147 N k226 n) ih _ _ _ _ _ _ _ _ _ _ _ _ _ H
def J_X12_sleepful_282 (N : Nat) (k126 : Int → Int → Int → Int → Int → Int → Int → Hp → Option (Int × Hp)) (x1 : Int) (x3 : Int) (x4 : Int) (x5 : Int) (x6 : Int) (x7 : Int) (x8 : Int) (h : Hp) : Option (Int × Hp) :=
  bnd (w32 (x8 + 1)) fun y1 =>
  k126 x1 x3 x4 x5 x6 x7 y1 h
set_option maxRecDepth 100000 in
set_option maxHeartbeats 4000000 in
theorem R_J_X12_sleepful_282 (N : Nat) (k126 : Int → Int → Int → Int → Int → Int → Int → Hp → Option (Int × Hp)) (hk126 : ∀ (x1 : Int) (x3 : Int) (x4 : Int) (x5 : Int) (x6 : Int) (x7 : Int) (x8 : Int) (h : Hp) (res : Int × Hp), k126 x1 x3 x4 x5 x6 x7 x8 h = some res → Go M_X12_sleepful 5 126 [some (.inr 84), some (.inl x1), none, some (.inl x3), some (.inl x4), some (.inl x5), some (.inl x6), some (.inl x7), some (.inl x8), none, none, none, none] [] h (Qi res)) (x1 : Int) (x3 : Int) (x4 : Int) (x5 : Int) (x6 : Int) (x7 : Int) (x8 : Int) (h : Hp) (res : Int × Hp) (H : J_X12_sleepful_282 N k126 x1 x3 x4 x5 x6 x7 x8 h = some res) : Go M_X12_sleepful 5 282 [some (.inr 84), some (.inl x1), none, some (.inl x3), some (.inl x4), some (.inl x5), some (.inl x6), some (.inl x7), some (.inl x8), none, none, none, none] [] h (Qi res) := by
  unfold J_X12_sleepful_282 at H
  refine g_iincB (T_X12_sleepful 150 _ _ _ rfl) rfl (by decide) H fun y1 H => ?_
  refine g_goto (tgt := 126) (T_X12_sleepful 151 _ _ _ rfl) (by decide) ?_
  refine g_weak [true, true, false, true, true, true, true, true, true, false, false, false, false] ?_
  exact hk126 _ _ _ _ _ _ _ _ _ H
def J_X12_sleepful_270 (N : Nat) (k126 : Int → Int → Int → Int → Int → Int → Int → Hp → Option (Int × Hp)) (x1 : Int) (x3 : Int) (x4 : Int) (x8 : Int) (x9 : Int) (x10 : Int) (x11 : Int) (h : Hp) : Option (Int × Hp) :=
  J_X12_sleepful_282 N k126 x1 x3 x4 x11 x9 x10 x8 h
set_option maxRecDepth 100000 in
set_option maxHeartbeats 4000000 in
theorem R_J_X12_sleepful_270 (N : Nat) (k126 : Int → Int → Int → Int → Int → Int → Int → Hp → Option (Int × Hp)) (hk126 : ∀ (x1 : Int) (x3 : Int) (x4 : Int) (x5 : Int) (x6 : Int) (x7 : Int) (x8 : Int) (h : Hp) (res : Int × Hp), k126 x1 x3 x4 x5 x6 x7 x8 h = some res → Go M_X12_sleepful 5 126 [some (.inr 84), some (.inl x1), none, some (.inl x3), some (.inl x4), some (.inl x5), some (.inl x6), some (.inl x7), some (.inl x8), none, none, none, none] [] h (Qi res)) (x1 : Int) (x3 : Int) (x4 : Int) (x8 : Int) (x9 : Int) (x10 : Int) (x11 : Int) (h : Hp) (res : Int × Hp) (H : J_X12_sleepful_270 N k126 x1 x3 x4 x8 x9 x10 x11 h = some res) : Go M_X12_sleepful 5 270 [some (.inr 84), some (.inl x1), none, some (.inl x3), some (.inl x4), none, none, none, some (.inl x8), some (.inl x9), some (.inl x10), some (.inl x11), none] [] h (Qi res) := by
  unfold J_X12_sleepful_270 at H
  refine g_iload (T_X12_sleepful 144 _ _ _ rfl) rfl ?_
  refine g_istore (T_X12_sleepful 145 _ _ _ rfl) (by decide) ?_
  refine g_iload (T_X12_sleepful 146 _ _ _ rfl) rfl ?_
  refine g_istore (T_X12_sleepful 147 _ _ _ rfl) (by decide) ?_
  refine g_iload (T_X12_sleepful 148 _ _ _ rfl) rfl ?_
  refine g_istore (T_X12_sleepful 149 _ _ _ rfl) (by decide) ?_
  refine g_weak [true, true, false, true, true, true, true, true, true, false, false, false, false] ?_
  exact R_J_X12_sleepful_282 N k126 hk126 _ _ _ _ _ _ _ _ _ H
def L_X12_sleepful_126 (N : Nat) : Nat → Int → Int → Int → Int → Int → Int → Int → Hp → Option (Int × Hp)
  | 0, _, _, _, _, _, _, _, _ => none
  | n + 1, x1, x3, x4, x5, x6, x7, x8, h =>
    if (ishl 1 x4) ≤ x8 then
      if x3 = 0 then
        some (x6, h)
      else
      if x3 = 1 then
        some (x7, h)
      else
      some (x5, h)
    else
    L_X12_sleepful_147 N (fun (v1 : Int) (v2 : Int) (v3 : Int) (v4 : Int) (v5 : Int) (v6 : Int) (v7 : Int) (v8 : Int) (v9 : Int) (v10 : Int) (h11 : Hp) =>
      if v1 < v9 then
        J_X12_sleepful_282 N (L_X12_sleepful_126 N n) v1 v2 v3 v4 v5 v6 v7 h11
      else
      if v8 < v5 then
        J_X12_sleepful_282 N (L_X12_sleepful_126 N n) v1 v2 v3 v4 v5 v6 v7 h11
      else
      if v8 = v5 then
        if v6 < v9 then
          J_X12_sleepful_282 N (L_X12_sleepful_126 N n) v1 v2 v3 v4 v5 v6 v7 h11
        else
        if v9 = v6 then
          if v10 < v4 then
            J_X12_sleepful_270 N (L_X12_sleepful_126 N n) v1 v2 v3 v7 v8 v9 v10 h11
          else
          J_X12_sleepful_282 N (L_X12_sleepful_126 N n) v1 v2 v3 v4 v5 v6 v7 h11
        else
        J_X12_sleepful_270 N (L_X12_sleepful_126 N n) v1 v2 v3 v7 v8 v9 v10 h11
      else
      J_X12_sleepful_270 N (L_X12_sleepful_126 N n) v1 v2 v3 v7 v8 v9 v10 h11) N x1 x3 x4 x5 x6 x7 x8 0 0 0 0 h
set_option maxRecDepth 100000 in
set_option maxHeartbeats 4000000 in
theorem R_L_X12_sleepful_126 (N : Nat) : ∀ (n : Nat) (x1 : Int) (x3 : Int) (x4 : Int) (x5 : Int) (x6 : Int) (x7 : Int) (x8 : Int) (h : Hp) (res : Int × Hp), L_X12_sleepful_126 N n x1 x3 x4 x5 x6 x7 x8 h = some res → Go M_X12_sleepful 5 126 [some (.inr 84), some (.inl x1), none, some (.inl x3), some (.inl x4), some (.inl x5), some (.inl x6), some (.inl x7), some (.inl x8), none, none, none, none] [] h (Qi res)
  | 0, _, _, _, _, _, _, _, _, _, H => by cases H
  | n + 1, x1, x3, x4, x5, x6, x7, x8, h, res, H => by
    have ih := R_L_X12_sleepful_126 N n
    simp only [L_X12_sleepful_126] at H
    refine g_iload (T_X12_sleepful 71 _ _ _ rfl) rfl ?_
    refine g_iconst (T_X12_sleepful 72 _ _ _ rfl) ⟨by decide, by decide⟩ ?_
    refine g_iload (T_X12_sleepful 73 _ _ _ rfl) rfl ?_
    refine g_ishl (T_X12_sleepful 74 _ _ _ rfl) ?_
    refine g_icmp_ge (tgt := 288) (T_X12_sleepful 75 _ _ _ rfl) (by decide) (fun cc => ?_) (fun cc => ?_)
    · replace H := ite_p cc H
      refine g_iload_n (T_X12_sleepful 152 _ _ _ rfl) rfl ?_
      refine g_if_ne (tgt := 297) (T_X12_sleepful 153 _ _ _ rfl) (by decide) (fun cc => ?_) (fun cc => ?_)
      · replace H := ite_n cc H
        refine g_iload_n (T_X12_sleepful 156 _ _ _ rfl) rfl ?_
        refine g_iconst (T_X12_sleepful 157 _ _ _ rfl) ⟨by decide, by decide⟩ ?_
        refine g_icmp_ne (tgt := 307) (T_X12_sleepful 158 _ _ _ rfl) (by decide) (fun cc => ?_) (fun cc => ?_)
        · replace H := ite_n cc H
          refine g_iload (T_X12_sleepful 161 _ _ _ rfl) rfl ?_
          exact g_iret (T_X12_sleepful 162 _ _ _ rfl) rfl (qi_of H)
        · replace H := ite_p cc H
          refine g_iload (T_X12_sleepful 159 _ _ _ rfl) rfl ?_
          refine g_goto (tgt := 309) (T_X12_sleepful 160 _ _ _ rfl) (by decide) ?_
          exact g_iret (T_X12_sleepful 162 _ _ _ rfl) rfl (qi_of H)
      · replace H := ite_p cc H
        refine g_iload (T_X12_sleepful 154 _ _ _ rfl) rfl ?_
        refine g_goto (tgt := 309) (T_X12_sleepful 155 _ _ _ rfl) (by decide) ?_
        exact g_iret (T_X12_sleepful 162 _ _ _ rfl) rfl (qi_of H)
    · replace H := ite_n cc H
      refine g_iconst (T_X12_sleepful 76 _ _ _ rfl) ⟨by decide, by decide⟩ ?_
      refine g_istore (T_X12_sleepful 77 _ _ _ rfl) (by decide) ?_
      refine g_iconst (T_X12_sleepful 78 _ _ _ rfl) ⟨by decide, by decide⟩ ?_
      refine g_istore (T_X12_sleepful 79 _ _ _ rfl) (by decide) ?_
      refine g_iconst (T_X12_sleepful 80 _ _ _ rfl) ⟨by decide, by decide⟩ ?_
      refine g_istore (T_X12_sleepful 81 _ _ _ rfl) (by decide) ?_
      refine g_iconst (T_X12_sleepful 82 _ _ _ rfl) ⟨by decide, by decide⟩ ?_
      refine g_istore (T_X12_sleepful 83 _ _ _ rfl) (by decide) ?_
      refine g_weak [true, true, false, true, true, true, true, true, true, true, true, true, true] ?_
      refine R_L_X12_sleepful_147 N _ (fun v1 v2 v3 v4 v5 v6 v7 v8 v9 v10 h11 res H => ?_) _ _ _ _ _ _ _ _ _ _ _ _ _ _ H
      · refine g_iload (T_X12_sleepful 125 _ _ _ rfl) rfl ?_
        refine g_iload_n (T_X12_sleepful 126 _ _ _ rfl) rfl ?_
        refine g_icmp_gt (tgt := 282) (T_X12_sleepful 127 _ _ _ rfl) (by decide) (fun cc => ?_) (fun cc => ?_)
        · replace H := ite_p cc H
          refine g_weak [true, true, false, true, true, true, true, true, true, false, false, false, false] ?_
          exact R_J_X12_sleepful_282 N (L_X12_sleepful_126 N n) ih _ _ _ _ _ _ _ _ _ H
        · replace H := ite_n cc H
          refine g_iload (T_X12_sleepful 128 _ _ _ rfl) rfl ?_
          refine g_iload (T_X12_sleepful 129 _ _ _ rfl) rfl ?_
          refine g_icmp_lt (tgt := 282) (T_X12_sleepful 130 _ _ _ rfl) (by decide) (fun cc => ?_) (fun cc => ?_)
          · replace H := ite_p cc H
            refine g_weak [true, true, false, true, true, true, true, true, true, false, false, false, false] ?_
            exact R_J_X12_sleepful_282 N (L_X12_sleepful_126 N n) ih _ _ _ _ _ _ _ _ _ H
          · replace H := ite_n cc H
            refine g_iload (T_X12_sleepful 131 _ _ _ rfl) rfl ?_
            refine g_iload (T_X12_sleepful 132 _ _ _ rfl) rfl ?_
            refine g_icmp_ne (tgt := 270) (T_X12_sleepful 133 _ _ _ rfl) (by decide) (fun cc => ?_) (fun cc => ?_)
            · replace H := ite_n cc H
              refine g_weak [true, true, false, true, true, false, false, false, true, true, true, true, false] ?_
              exact R_J_X12_sleepful_270 N (L_X12_sleepful_126 N n) ih _ _ _ _ _ _ _ _ _ H
            · replace H := ite_p cc H
              refine g_iload (T_X12_sleepful 134 _ _ _ rfl) rfl ?_
              refine g_iload (T_X12_sleepful 135 _ _ _ rfl) rfl ?_
              refine g_icmp_gt (tgt := 282) (T_X12_sleepful 136 _ _ _ rfl) (by decide) (fun cc => ?_) (fun cc => ?_)
              · replace H := ite_p cc H
                refine g_weak [true, true, false, true, true, true, true, true, true, false, false, false, false] ?_
                exact R_J_X12_sleepful_282 N (L_X12_sleepful_126 N n) ih _ _ _ _ _ _ _ _ _ H
              · replace H := ite_n cc H
                refine g_iload (T_X12_sleepful 137 _ _ _ rfl) rfl ?_
                refine g_iload (T_X12_sleepful 138 _ _ _ rfl) rfl ?_
                refine g_icmp_ne (tgt := 270) (T_X12_sleepful 139 _ _ _ rfl) (by decide) (fun cc => ?_) (fun cc => ?_)
                · replace H := ite_n cc H
                  refine g_weak [true, true, false, true, true, false, false, false, true, true, true, true, false] ?_
                  exact R_J_X12_sleepful_270 N (L_X12_sleepful_126 N n) ih _ _ _ _ _ _ _ _ _ H
                · replace H := ite_p cc H
                  refine g_iload (T_X12_sleepful 140 _ _ _ rfl) rfl ?_
                  refine g_iload (T_X12_sleepful 141 _ _ _ rfl) rfl ?_
                  refine g_icmp_lt (tgt := 270) (T_X12_sleepful 142 _ _ _ rfl) (by decide) (fun cc => ?_) (fun cc => ?_)
                  · replace H := ite_p cc H
                    refine g_weak [true, true, false, true, true, false, false, false, true, true, true, true, false] ?_
                    exact R_J_X12_sleepful_270 N (L_X12_sleepful_126 N n) ih _ _ _ _ _ _ _ _ _ H
                  · replace H := ite_n cc H
                    refine g_goto (tgt := 282) (T_X12_sleepful 143 _ _ _ rfl) (by decide) ?_
                    refine g_weak [true, true, false, true, true, true, true, true, true, false, false, false, false] ?_
                    exact R_J_X12_sleepful_282 N (L_X12_sleepful_126 N n) ih _ _ _ _ _ _ _ _ _ H
def L_X12_sleepful_57 (N : Nat) : Nat → Int → Int → Int → Int → Hp → Option (Int × Hp)
  | 0, _, _, _, _, _ => none
  | n + 1, x1, x3, x4, x5, h =>
    if x4 ≤ x5 then
      L_X12_sleepful_126 N  N x1 x3 x4 0 (-1) 0 0 h
    else
    grd (0 ≤ x5 ∧ x5 < 8) <|
    bd (F_X12_byStreet N 115 (h 118 x5.toNat) 0 h) fun y2 h1 =>
    bd (F_X12_max N 1 y2 h1) fun y4 h3 =>
    grd (0 ≤ x5 ∧ x5 < 8) <|
    grd (0 ≤ (w32 (0 + (h3 118 x5.toNat))) ∧ (w32 (0 + (h3 118 x5.toNat))) < 17) <|
    bd (F_X12_max N 0 (w32 (y4 - (h3 84 (w32 (0 + (h3 118 x5.toNat))).toNat))) h3) fun y6 h5 =>
    grd (0 ≤ x5 ∧ x5 < 8) <|
    bnd (hw h5 119 x5.toNat y6) fun h7 =>
    bnd (w32 (x5 + 1)) fun y8 =>
    (L_X12_sleepful_57 N n) x1 x3 x4 y8 h7
set_option maxRecDepth 100000 in
set_option maxHeartbeats 4000000 in
theorem R_L_X12_sleepful_57 (N : Nat) : ∀ (n : Nat) (x1 : Int) (x3 : Int) (x4 : Int) (x5 : Int) (h : Hp) (res : Int × Hp), L_X12_sleepful_57 N n x1 x3 x4 x5 h = some res → Go M_X12_sleepful 5 57 [some (.inr 84), some (.inl x1), none, some (.inl x3), some (.inl x4), some (.inl x5), none, none, none, none, none, none, none] [] h (Qi res)
  | 0, _, _, _, _, _, _, H => by cases H
  | n + 1, x1, x3, x4, x5, h, res, H => by
    have ih := R_L_X12_sleepful_57 N n
    simp only [L_X12_sleepful_57] at H
    refine g_iload (T_X12_sleepful 32 _ _ _ rfl) rfl ?_
    refine g_iload (T_X12_sleepful 33 _ _ _ rfl) rfl ?_
    refine g_icmp_ge (tgt := 114) (T_X12_sleepful 34 _ _ _ rfl) (by decide) (fun cc => ?_) (fun cc => ?_)
    · replace H := ite_p cc H
      refine g_iconst (T_X12_sleepful 63 _ _ _ rfl) ⟨by decide, by decide⟩ ?_
      refine g_istore (T_X12_sleepful 64 _ _ _ rfl) (by decide) ?_
      refine g_iconst (T_X12_sleepful 65 _ _ _ rfl) ⟨by decide, by decide⟩ ?_
      refine g_istore (T_X12_sleepful 66 _ _ _ rfl) (by decide) ?_
      refine g_iconst (T_X12_sleepful 67 _ _ _ rfl) ⟨by decide, by decide⟩ ?_
      refine g_istore (T_X12_sleepful 68 _ _ _ rfl) (by decide) ?_
      refine g_iconst (T_X12_sleepful 69 _ _ _ rfl) ⟨by decide, by decide⟩ ?_
      refine g_istore (T_X12_sleepful 70 _ _ _ rfl) (by decide) ?_
      refine g_weak [true, true, false, true, true, true, true, true, true, false, false, false, false] ?_
      refine R_L_X12_sleepful_126 N   _ _ _ _ _ _ _ _ _ _ H
    · replace H := ite_n cc H
      refine g_aload_n (T_X12_sleepful 35 _ _ _ rfl) rfl ?_
      refine g_getR (c := 83) (r := 120) (T_X12_sleepful 36 _ _ _ rfl) fl_X12_116 rfl (nR rfl) rfl (by decide) ?_
      refine g_iload (T_X12_sleepful 37 _ _ _ rfl) rfl ?_
      refine g_iconst (T_X12_sleepful 38 _ _ _ rfl) ⟨by decide, by decide⟩ ?_
      refine g_iconst (T_X12_sleepful 39 _ _ _ rfl) ⟨by decide, by decide⟩ ?_
      refine g_aload_n (T_X12_sleepful 40 _ _ _ rfl) rfl ?_
      refine g_bipush (T_X12_sleepful 41 _ _ _ rfl) (by decide) ?_
      refine g_aload_n (T_X12_sleepful 42 _ _ _ rfl) rfl ?_
      refine g_getR (c := 83) (r := 119) (T_X12_sleepful 43 _ _ _ rfl) fl_X12_113 rfl (nR rfl) rfl (by decide) ?_
      refine g_iload (T_X12_sleepful 44 _ _ _ rfl) rfl ?_
      obtain ⟨hg, H⟩ := grd_some H
      refine g_iald (c := 118) (T_X12_sleepful 45 _ _ _ rfl) rfl hg ?_
      refine g_iconst (T_X12_sleepful 46 _ _ _ rfl) ⟨by decide, by decide⟩ ?_
      obtain ⟨y2, h1, hq, H⟩ := bd_some H
      refine g_callVi (M' := M_X12_byStreet) (c := 83) (av := [.inl 115, .inl (h 118 x5.toNat), .inl 0]) (st := [.inl 1, .inl 0, .inl x5, .inr 120]) (T_X12_sleepful 47 _ _ _ rfl) ml_X12_308 cb_X12_byStreet rfl rfl (Nat.le_of_ble_eq_true rfl) (by omega) (R_X12_byStreet N _ _ _ _ _ hq) ?_
      obtain ⟨y4, h3, hq, H⟩ := bd_some H
      refine g_callSi (M' := M_X12_max) (av := [.inl 1, .inl y2]) (st := [.inl 0, .inl x5, .inr 120]) (T_X12_sleepful 48 _ _ _ rfl) ml_X12_363 cb_X12_max rfl (Nat.le_of_ble_eq_true rfl) (by omega) (R_X12_max N _ _ _ _ hq) ?_
      refine g_aload_n (T_X12_sleepful 49 _ _ _ rfl) rfl ?_
      refine g_getR (c := 83) (r := 85) (T_X12_sleepful 50 _ _ _ rfl) fl_X12_7 rfl (nR rfl) rfl (by decide) ?_
      refine g_iconst (T_X12_sleepful 51 _ _ _ rfl) ⟨by decide, by decide⟩ ?_
      refine g_aload_n (T_X12_sleepful 52 _ _ _ rfl) rfl ?_
      refine g_getR (c := 83) (r := 119) (T_X12_sleepful 53 _ _ _ rfl) fl_X12_113 rfl (nR rfl) rfl (by decide) ?_
      refine g_iload (T_X12_sleepful 54 _ _ _ rfl) rfl ?_
      obtain ⟨hg, H⟩ := grd_some H
      refine g_iald (c := 118) (T_X12_sleepful 55 _ _ _ rfl) rfl hg ?_
      refine g_iadd (T_X12_sleepful 56 _ _ _ rfl) ?_
      obtain ⟨hg, H⟩ := grd_some H
      refine g_iald (c := 84) (T_X12_sleepful 57 _ _ _ rfl) rfl hg ?_
      refine g_isub (T_X12_sleepful 58 _ _ _ rfl) ?_
      obtain ⟨y6, h5, hq, H⟩ := bd_some H
      refine g_callSi (M' := M_X12_max) (av := [.inl 0, .inl (w32 (y4 - (h3 84 (w32 (0 + (h3 118 x5.toNat))).toNat)))]) (st := [.inl x5, .inr 120]) (T_X12_sleepful 59 _ _ _ rfl) ml_X12_363 cb_X12_max rfl (Nat.le_of_ble_eq_true rfl) (by omega) (R_X12_max N _ _ _ _ hq) ?_
      obtain ⟨hg, H⟩ := grd_some H
      refine g_iast (c := 119) (T_X12_sleepful 60 _ _ _ rfl) rfl hg ?_
      refine g_bndH H fun h7 H => ?_
      refine g_iincB (T_X12_sleepful 61 _ _ _ rfl) rfl (by decide) H fun y8 H => ?_
      refine g_goto (tgt := 57) (T_X12_sleepful 62 _ _ _ rfl) (by decide) ?_
      refine g_weak [true, true, false, true, true, true, false, false, false, false, false, false, false] ?_
      exact ih _ _ _ _ _ _ H
def F_X12_sleepful (N : Nat) (x1 : Int) (x2 : Int) (x3 : Int) (h : Hp) : Option (Int × Hp) :=
  bd (F_X12_in N x1 0 300 h) fun y2 h1 =>
  if y2 = 0 then
    some ((-1), h1)
  else
  if x2 < 1 then
    some ((-1), h1)
  else
  if (iand x2 (ixor (h1 83 12) (-1))) = 0 then
    bd (F_X12_bits N x2 h1) fun y4 h3 =>
    if 8 < y4 then
      some ((-1), h3)
    else
    bd (F_X12_in N x3 0 2 h3) fun y6 h5 =>
    if y6 = 0 then
      some ((-1), h5)
    else
    bd (F_X12_laysWho N x2 h5) fun y8 h7 =>
    L_X12_sleepful_57 N  N x1 x3 y8 0 h7
  else
  some ((-1), h1)
set_option maxRecDepth 100000 in
set_option maxHeartbeats 4000000 in
theorem R_X12_sleepful (N : Nat) (x1 : Int) (x2 : Int) (x3 : Int) (h : Hp) (res : Int × Hp) (H : F_X12_sleepful N x1 x2 x3 h = some res) : Runs M_X12_sleepful 5 [.inr 84, .inl x1, .inl x2, .inl x3] h (Qi res) := by
  refine Runs.of rfl (Nat.le_of_ble_eq_true rfl) ?_
  show Go M_X12_sleepful 5 0 [some (.inr 84), some (.inl x1), some (.inl x2), some (.inl x3), none, none, none, none, none, none, none, none, none] [] h (Qi res)
  unfold F_X12_sleepful at H
  refine g_iload_n (T_X12_sleepful 0 _ _ _ rfl) rfl ?_
  refine g_iconst (T_X12_sleepful 1 _ _ _ rfl) ⟨by decide, by decide⟩ ?_
  refine g_sipush (T_X12_sleepful 2 _ _ _ rfl) (by decide) ?_
  obtain ⟨y2, h1, hq, H⟩ := bd_some H
  refine g_callSi (M' := M_X12_in) (av := [.inl x1, .inl 0, .inl 300]) (st := []) (T_X12_sleepful 3 _ _ _ rfl) ml_X12_155 cb_X12_in rfl (Nat.le_of_ble_eq_true rfl) (by omega) (R_X12_in N _ _ _ _ _ hq) ?_
  refine g_if_eq (tgt := 45) (T_X12_sleepful 4 _ _ _ rfl) (by decide) (fun cc => ?_) (fun cc => ?_)
  · replace H := ite_p cc H
    refine g_iconst (T_X12_sleepful 24 _ _ _ rfl) ⟨by decide, by decide⟩ ?_
    exact g_iret (T_X12_sleepful 25 _ _ _ rfl) rfl (qi_of H)
  · replace H := ite_n cc H
    refine g_iload_n (T_X12_sleepful 5 _ _ _ rfl) rfl ?_
    refine g_iconst (T_X12_sleepful 6 _ _ _ rfl) ⟨by decide, by decide⟩ ?_
    refine g_icmp_lt (tgt := 45) (T_X12_sleepful 7 _ _ _ rfl) (by decide) (fun cc => ?_) (fun cc => ?_)
    · replace H := ite_p cc H
      refine g_iconst (T_X12_sleepful 24 _ _ _ rfl) ⟨by decide, by decide⟩ ?_
      exact g_iret (T_X12_sleepful 25 _ _ _ rfl) rfl (qi_of H)
    · replace H := ite_n cc H
      refine g_iload_n (T_X12_sleepful 8 _ _ _ rfl) rfl ?_
      refine g_aload_n (T_X12_sleepful 9 _ _ _ rfl) rfl ?_
      refine g_getI (c := 83) (T_X12_sleepful 10 _ _ _ rfl) fl_X12_135 rfl (Or.inl rfl) ?_
      refine g_iconst (T_X12_sleepful 11 _ _ _ rfl) ⟨by decide, by decide⟩ ?_
      refine g_ixor (T_X12_sleepful 12 _ _ _ rfl) ?_
      refine g_iand (T_X12_sleepful 13 _ _ _ rfl) ?_
      refine g_if_ne (tgt := 45) (T_X12_sleepful 14 _ _ _ rfl) (by decide) (fun cc => ?_) (fun cc => ?_)
      · replace H := ite_n cc H
        refine g_iconst (T_X12_sleepful 24 _ _ _ rfl) ⟨by decide, by decide⟩ ?_
        exact g_iret (T_X12_sleepful 25 _ _ _ rfl) rfl (qi_of H)
      · replace H := ite_p cc H
        refine g_iload_n (T_X12_sleepful 15 _ _ _ rfl) rfl ?_
        obtain ⟨y4, h3, hq, H⟩ := bd_some H
        refine g_callSi (M' := M_X12_bits) (av := [.inl x2]) (st := []) (T_X12_sleepful 16 _ _ _ rfl) ml_X12_348 cb_X12_bits rfl (Nat.le_of_ble_eq_true rfl) (by omega) (R_X12_bits N _ _ _ hq) ?_
        refine g_bipush (T_X12_sleepful 17 _ _ _ rfl) (by decide) ?_
        refine g_icmp_gt (tgt := 45) (T_X12_sleepful 18 _ _ _ rfl) (by decide) (fun cc => ?_) (fun cc => ?_)
        · replace H := ite_p cc H
          refine g_iconst (T_X12_sleepful 24 _ _ _ rfl) ⟨by decide, by decide⟩ ?_
          exact g_iret (T_X12_sleepful 25 _ _ _ rfl) rfl (qi_of H)
        · replace H := ite_n cc H
          refine g_iload_n (T_X12_sleepful 19 _ _ _ rfl) rfl ?_
          refine g_iconst (T_X12_sleepful 20 _ _ _ rfl) ⟨by decide, by decide⟩ ?_
          refine g_iconst (T_X12_sleepful 21 _ _ _ rfl) ⟨by decide, by decide⟩ ?_
          obtain ⟨y6, h5, hq, H⟩ := bd_some H
          refine g_callSi (M' := M_X12_in) (av := [.inl x3, .inl 0, .inl 2]) (st := []) (T_X12_sleepful 22 _ _ _ rfl) ml_X12_155 cb_X12_in rfl (Nat.le_of_ble_eq_true rfl) (by omega) (R_X12_in N _ _ _ _ _ hq) ?_
          refine g_if_ne (tgt := 47) (T_X12_sleepful 23 _ _ _ rfl) (by decide) (fun cc => ?_) (fun cc => ?_)
          · replace H := ite_n cc H
            refine g_aload_n (T_X12_sleepful 26 _ _ _ rfl) rfl ?_
            refine g_iload_n (T_X12_sleepful 27 _ _ _ rfl) rfl ?_
            obtain ⟨y8, h7, hq, H⟩ := bd_some H
            refine g_callVi (M' := M_X12_laysWho) (c := 83) (av := [.inl x2]) (st := []) (T_X12_sleepful 28 _ _ _ rfl) ml_X12_351 cb_X12_laysWho rfl rfl (Nat.le_of_ble_eq_true rfl) (by omega) (R_X12_laysWho N _ _ _ hq) ?_
            refine g_istore (T_X12_sleepful 29 _ _ _ rfl) (by decide) ?_
            refine g_iconst (T_X12_sleepful 30 _ _ _ rfl) ⟨by decide, by decide⟩ ?_
            refine g_istore (T_X12_sleepful 31 _ _ _ rfl) (by decide) ?_
            refine g_weak [true, true, false, true, true, true, false, false, false, false, false, false, false] ?_
            refine R_L_X12_sleepful_57 N   _ _ _ _ _ _ _ H
          · replace H := ite_p cc H
            refine g_iconst (T_X12_sleepful 24 _ _ _ rfl) ⟨by decide, by decide⟩ ?_
            exact g_iret (T_X12_sleepful 25 _ _ _ rfl) rfl (qi_of H)
def J_X12_laysReach_117 (N : Nat) (k43 : Int → Int → Hp → Option (Hp)) (x1 : Int) (x2 : Int) (h : Hp) : Option (Hp) :=
  bnd (w32 (x2 + 1)) fun y1 =>
  k43 x1 y1 h
set_option maxRecDepth 100000 in
set_option maxHeartbeats 4000000 in
theorem R_J_X12_laysReach_117 (N : Nat) (k43 : Int → Int → Hp → Option (Hp)) (hk43 : ∀ (x1 : Int) (x2 : Int) (h : Hp) (res : Hp), k43 x1 x2 h = some res → Go M_X12_laysReach 3 43 [some (.inr 84), some (.inl x1), some (.inl x2)] [] h (Qv res)) (x1 : Int) (x2 : Int) (h : Hp) (res : Hp) (H : J_X12_laysReach_117 N k43 x1 x2 h = some res) : Go M_X12_laysReach 3 117 [some (.inr 84), some (.inl x1), some (.inl x2)] [] h (Qv res) := by
  unfold J_X12_laysReach_117 at H
  refine g_iincB (T_X12_laysReach 74 _ _ _ rfl) rfl (by decide) H fun y1 H => ?_
  refine g_goto (tgt := 43) (T_X12_laysReach 75 _ _ _ rfl) (by decide) ?_
  refine g_weak [true, true, true] ?_
  exact hk43 _ _ _ _ H
def L_X12_laysReach_43 (N : Nat) (k123 : Int → Hp → Option (Hp)) : Nat → Int → Int → Hp → Option (Hp)
  | 0, _, _, _ => none
  | n + 1, x1, x2, h =>
    if 14 ≤ x2 then
      k123 x1 h
    else
    bd (F_X12_farOf N x1 x2 h) fun y2 h1 =>
    if y2 < 1000000 then
      grd (0 ≤ x1 ∧ x1 < 14) <|
      grd (0 ≤ x1 ∧ x1 < 14) <|
      bnd (hw h1 120 x1.toNat (w32 ((h1 120 x1.toNat) + 1))) fun h3 =>
      grd (0 ≤ x1 ∧ x1 < 14) <|
      bd (F_X12_farOf N x1 x2 h3) fun y5 h4 =>
      bd (F_X12_max N (h3 121 x1.toNat) y5 h4) fun y7 h6 =>
      grd (0 ≤ x1 ∧ x1 < 14) <|
      bnd (hw h6 121 x1.toNat y7) fun h8 =>
      grd (0 ≤ x1 ∧ x1 < 14) <|
      bd (F_X12_farOf N x1 x2 h8) fun y10 h9 =>
      grd (0 ≤ x1 ∧ x1 < 14) <|
      bnd (hw h9 122 x1.toNat (w32 ((h8 122 x1.toNat) + y10))) fun h11 =>
      J_X12_laysReach_117 N (L_X12_laysReach_43 N k123 n) x1 x2 h11
    else
    J_X12_laysReach_117 N (L_X12_laysReach_43 N k123 n) x1 x2 h1
set_option maxRecDepth 100000 in
set_option maxHeartbeats 4000000 in
theorem R_L_X12_laysReach_43 (N : Nat) (k123 : Int → Hp → Option (Hp)) (hk123 : ∀ (x1 : Int) (h : Hp) (res : Hp), k123 x1 h = some res → Go M_X12_laysReach 3 123 [some (.inr 84), some (.inl x1), none] [] h (Qv res)) : ∀ (n : Nat) (x1 : Int) (x2 : Int) (h : Hp) (res : Hp), L_X12_laysReach_43 N k123 n x1 x2 h = some res → Go M_X12_laysReach 3 43 [some (.inr 84), some (.inl x1), some (.inl x2)] [] h (Qv res)
  | 0, _, _, _, _, H => by cases H
  | n + 1, x1, x2, h, res, H => by
    have ih := R_L_X12_laysReach_43 N k123 hk123 n
    simp only [L_X12_laysReach_43] at H
    refine g_iload_n (T_X12_laysReach 28 _ _ _ rfl) rfl ?_
    refine g_bipush (T_X12_laysReach 29 _ _ _ rfl) (by decide) ?_
    refine g_icmp_ge (tgt := 123) (T_X12_laysReach 30 _ _ _ rfl) (by decide) (fun cc => ?_) (fun cc => ?_)
    · replace H := ite_p cc H
      refine g_weak [true, true, false] ?_
      exact hk123 _ _ _ H
    · replace H := ite_n cc H
      refine g_aload_n (T_X12_laysReach 31 _ _ _ rfl) rfl ?_
      refine g_iload_n (T_X12_laysReach 32 _ _ _ rfl) rfl ?_
      refine g_iload_n (T_X12_laysReach 33 _ _ _ rfl) rfl ?_
      obtain ⟨y2, h1, hq, H⟩ := bd_some H
      refine g_callVi (M' := M_X12_farOf) (c := 83) (av := [.inl x1, .inl x2]) (st := []) (T_X12_laysReach 34 _ _ _ rfl) ml_X12_293 cb_X12_farOf rfl rfl (Nat.le_of_ble_eq_true rfl) (by omega) (R_X12_farOf N _ _ _ _ hq) ?_
      refine g_ldc (T_X12_laysReach 35 _ _ _ rfl) kc_X12_150 ⟨by decide, by decide⟩ ?_
      refine g_icmp_lt (tgt := 63) (T_X12_laysReach 36 _ _ _ rfl) (by decide) (fun cc => ?_) (fun cc => ?_)
      · replace H := ite_p cc H
        refine g_aload_n (T_X12_laysReach 38 _ _ _ rfl) rfl ?_
        refine g_getR (c := 83) (r := 121) (T_X12_laysReach 39 _ _ _ rfl) fl_X12_119 rfl (nR rfl) rfl (by decide) ?_
        refine g_iload_n (T_X12_laysReach 40 _ _ _ rfl) rfl ?_
        refine g_aload_n (T_X12_laysReach 41 _ _ _ rfl) rfl ?_
        refine g_getR (c := 83) (r := 121) (T_X12_laysReach 42 _ _ _ rfl) fl_X12_119 rfl (nR rfl) rfl (by decide) ?_
        refine g_iload_n (T_X12_laysReach 43 _ _ _ rfl) rfl ?_
        obtain ⟨hg, H⟩ := grd_some H
        refine g_iald (c := 120) (T_X12_laysReach 44 _ _ _ rfl) rfl hg ?_
        refine g_iconst (T_X12_laysReach 45 _ _ _ rfl) ⟨by decide, by decide⟩ ?_
        refine g_iadd (T_X12_laysReach 46 _ _ _ rfl) ?_
        obtain ⟨hg, H⟩ := grd_some H
        refine g_iast (c := 120) (T_X12_laysReach 47 _ _ _ rfl) rfl hg ?_
        refine g_bndH H fun h3 H => ?_
        refine g_aload_n (T_X12_laysReach 48 _ _ _ rfl) rfl ?_
        refine g_getR (c := 83) (r := 122) (T_X12_laysReach 49 _ _ _ rfl) fl_X12_122 rfl (nR rfl) rfl (by decide) ?_
        refine g_iload_n (T_X12_laysReach 50 _ _ _ rfl) rfl ?_
        refine g_aload_n (T_X12_laysReach 51 _ _ _ rfl) rfl ?_
        refine g_getR (c := 83) (r := 122) (T_X12_laysReach 52 _ _ _ rfl) fl_X12_122 rfl (nR rfl) rfl (by decide) ?_
        refine g_iload_n (T_X12_laysReach 53 _ _ _ rfl) rfl ?_
        obtain ⟨hg, H⟩ := grd_some H
        refine g_iald (c := 121) (T_X12_laysReach 54 _ _ _ rfl) rfl hg ?_
        refine g_aload_n (T_X12_laysReach 55 _ _ _ rfl) rfl ?_
        refine g_iload_n (T_X12_laysReach 56 _ _ _ rfl) rfl ?_
        refine g_iload_n (T_X12_laysReach 57 _ _ _ rfl) rfl ?_
        obtain ⟨y5, h4, hq, H⟩ := bd_some H
        refine g_callVi (M' := M_X12_farOf) (c := 83) (av := [.inl x1, .inl x2]) (st := [.inl (h3 121 x1.toNat), .inl x1, .inr 122]) (T_X12_laysReach 58 _ _ _ rfl) ml_X12_293 cb_X12_farOf rfl rfl (Nat.le_of_ble_eq_true rfl) (by omega) (R_X12_farOf N _ _ _ _ hq) ?_
        obtain ⟨y7, h6, hq, H⟩ := bd_some H
        refine g_callSi (M' := M_X12_max) (av := [.inl (h3 121 x1.toNat), .inl y5]) (st := [.inl x1, .inr 122]) (T_X12_laysReach 59 _ _ _ rfl) ml_X12_363 cb_X12_max rfl (Nat.le_of_ble_eq_true rfl) (by omega) (R_X12_max N _ _ _ _ hq) ?_
        obtain ⟨hg, H⟩ := grd_some H
        refine g_iast (c := 121) (T_X12_laysReach 60 _ _ _ rfl) rfl hg ?_
        refine g_bndH H fun h8 H => ?_
        refine g_aload_n (T_X12_laysReach 61 _ _ _ rfl) rfl ?_
        refine g_getR (c := 83) (r := 123) (T_X12_laysReach 62 _ _ _ rfl) fl_X12_125 rfl (nR rfl) rfl (by decide) ?_
        refine g_iload_n (T_X12_laysReach 63 _ _ _ rfl) rfl ?_
        refine g_aload_n (T_X12_laysReach 64 _ _ _ rfl) rfl ?_
        refine g_getR (c := 83) (r := 123) (T_X12_laysReach 65 _ _ _ rfl) fl_X12_125 rfl (nR rfl) rfl (by decide) ?_
        refine g_iload_n (T_X12_laysReach 66 _ _ _ rfl) rfl ?_
        obtain ⟨hg, H⟩ := grd_some H
        refine g_iald (c := 122) (T_X12_laysReach 67 _ _ _ rfl) rfl hg ?_
        refine g_aload_n (T_X12_laysReach 68 _ _ _ rfl) rfl ?_
        refine g_iload_n (T_X12_laysReach 69 _ _ _ rfl) rfl ?_
        refine g_iload_n (T_X12_laysReach 70 _ _ _ rfl) rfl ?_
        obtain ⟨y10, h9, hq, H⟩ := bd_some H
        refine g_callVi (M' := M_X12_farOf) (c := 83) (av := [.inl x1, .inl x2]) (st := [.inl (h8 122 x1.toNat), .inl x1, .inr 123]) (T_X12_laysReach 71 _ _ _ rfl) ml_X12_293 cb_X12_farOf rfl rfl (Nat.le_of_ble_eq_true rfl) (by omega) (R_X12_farOf N _ _ _ _ hq) ?_
        refine g_iadd (T_X12_laysReach 72 _ _ _ rfl) ?_
        obtain ⟨hg, H⟩ := grd_some H
        refine g_iast (c := 122) (T_X12_laysReach 73 _ _ _ rfl) rfl hg ?_
        refine g_bndH H fun h11 H => ?_
        refine g_weak [true, true, true] ?_
        exact R_J_X12_laysReach_117 N (L_X12_laysReach_43 N k123 n) ih _ _ _ _ H
      · replace H := ite_n cc H
        refine g_goto (tgt := 117) (T_X12_laysReach 37 _ _ _ rfl) (by decide) ?_
        refine g_weak [true, true, true] ?_
        exact R_J_X12_laysReach_117 N (L_X12_laysReach_43 N k123 n) ih _ _ _ _ H
def J_X12_laysReach_26 (N : Nat) (k2 : Int → Hp → Option (Hp)) (x1 : Int) (s1 : Int) (s2 : Int) (h : Hp) : Option (Hp) :=
  grd (0 ≤ s1 ∧ s1 < 14) <|
  bnd (hw h 120 s1.toNat s2) fun h1 =>
  grd (0 ≤ x1 ∧ x1 < 14) <|
  bnd (hw h1 121 x1.toNat 0) fun h2 =>
  grd (0 ≤ x1 ∧ x1 < 14) <|
  bnd (hw h2 122 x1.toNat 0) fun h3 =>
  L_X12_laysReach_43 N (fun (v4 : Int) (h5 : Hp) =>
    bnd (w32 (v4 + 1)) fun y6 =>
    k2 y6 h5) N x1 0 h3
set_option maxRecDepth 100000 in
set_option maxHeartbeats 4000000 in
theorem R_J_X12_laysReach_26 (N : Nat) (k2 : Int → Hp → Option (Hp)) (hk2 : ∀ (x1 : Int) (h : Hp) (res : Hp), k2 x1 h = some res → Go M_X12_laysReach 3 2 [some (.inr 84), some (.inl x1), none] [] h (Qv res)) (x1 : Int) (s1 : Int) (s2 : Int) (h : Hp) (res : Hp) (H : J_X12_laysReach_26 N k2 x1 s1 s2 h = some res) : Go M_X12_laysReach 3 26 [some (.inr 84), some (.inl x1), none] [.inl s2, .inl s1, .inr 121] h (Qv res) := by
  unfold J_X12_laysReach_26 at H
  obtain ⟨hg, H⟩ := grd_some H
  refine g_iast (c := 120) (T_X12_laysReach 15 _ _ _ rfl) rfl hg ?_
  refine g_bndH H fun h1 H => ?_
  refine g_aload_n (T_X12_laysReach 16 _ _ _ rfl) rfl ?_
  refine g_getR (c := 83) (r := 122) (T_X12_laysReach 17 _ _ _ rfl) fl_X12_122 rfl (nR rfl) rfl (by decide) ?_
  refine g_iload_n (T_X12_laysReach 18 _ _ _ rfl) rfl ?_
  refine g_iconst (T_X12_laysReach 19 _ _ _ rfl) ⟨by decide, by decide⟩ ?_
  obtain ⟨hg, H⟩ := grd_some H
  refine g_iast (c := 121) (T_X12_laysReach 20 _ _ _ rfl) rfl hg ?_
  refine g_bndH H fun h2 H => ?_
  refine g_aload_n (T_X12_laysReach 21 _ _ _ rfl) rfl ?_
  refine g_getR (c := 83) (r := 123) (T_X12_laysReach 22 _ _ _ rfl) fl_X12_125 rfl (nR rfl) rfl (by decide) ?_
  refine g_iload_n (T_X12_laysReach 23 _ _ _ rfl) rfl ?_
  refine g_iconst (T_X12_laysReach 24 _ _ _ rfl) ⟨by decide, by decide⟩ ?_
  obtain ⟨hg, H⟩ := grd_some H
  refine g_iast (c := 122) (T_X12_laysReach 25 _ _ _ rfl) rfl hg ?_
  refine g_bndH H fun h3 H => ?_
  refine g_iconst (T_X12_laysReach 26 _ _ _ rfl) ⟨by decide, by decide⟩ ?_
  refine g_istore_n (T_X12_laysReach 27 _ _ _ rfl) (by decide) ?_
  refine g_weak [true, true, true] ?_
  refine R_L_X12_laysReach_43 N _ (fun v4 h5 res H => ?_) _ _ _ _ _ H
  · refine g_iincB (T_X12_laysReach 76 _ _ _ rfl) rfl (by decide) H fun y6 H => ?_
    refine g_goto (tgt := 2) (T_X12_laysReach 77 _ _ _ rfl) (by decide) ?_
    refine g_weak [true, true, false] ?_
    exact hk2 _ _ _ H
def L_X12_laysReach_2 (N : Nat) : Nat → Int → Hp → Option (Hp)
  | 0, _, _ => none
  | n + 1, x1, h =>
    if 14 ≤ x1 then
      some h
    else
    bd (F_X12_isStreet N x1 h) fun y2 h1 =>
    if y2 = 0 then
      J_X12_laysReach_26 N (L_X12_laysReach_2 N n) x1 x1 (-1) h1
    else
    J_X12_laysReach_26 N (L_X12_laysReach_2 N n) x1 x1 0 h1
set_option maxRecDepth 100000 in
set_option maxHeartbeats 4000000 in
theorem R_L_X12_laysReach_2 (N : Nat) : ∀ (n : Nat) (x1 : Int) (h : Hp) (res : Hp), L_X12_laysReach_2 N n x1 h = some res → Go M_X12_laysReach 3 2 [some (.inr 84), some (.inl x1), none] [] h (Qv res)
  | 0, _, _, _, H => by cases H
  | n + 1, x1, h, res, H => by
    have ih := R_L_X12_laysReach_2 N n
    simp only [L_X12_laysReach_2] at H
    refine g_iload_n (T_X12_laysReach 2 _ _ _ rfl) rfl ?_
    refine g_bipush (T_X12_laysReach 3 _ _ _ rfl) (by decide) ?_
    refine g_icmp_ge (tgt := 129) (T_X12_laysReach 4 _ _ _ rfl) (by decide) (fun cc => ?_) (fun cc => ?_)
    · replace H := ite_p cc H
      exact g_vret (T_X12_laysReach 78 _ _ _ rfl) rfl (qv_of H)
    · replace H := ite_n cc H
      refine g_aload_n (T_X12_laysReach 5 _ _ _ rfl) rfl ?_
      refine g_getR (c := 83) (r := 121) (T_X12_laysReach 6 _ _ _ rfl) fl_X12_119 rfl (nR rfl) rfl (by decide) ?_
      refine g_iload_n (T_X12_laysReach 7 _ _ _ rfl) rfl ?_
      refine g_aload_n (T_X12_laysReach 8 _ _ _ rfl) rfl ?_
      refine g_iload_n (T_X12_laysReach 9 _ _ _ rfl) rfl ?_
      obtain ⟨y2, h1, hq, H⟩ := bd_some H
      refine g_callVi (M' := M_X12_isStreet) (c := 83) (av := [.inl x1]) (st := [.inl x1, .inr 121]) (T_X12_laysReach 10 _ _ _ rfl) ml_X12_146 cb_X12_isStreet rfl rfl (Nat.le_of_ble_eq_true rfl) (by omega) (R_X12_isStreet N _ _ _ hq) ?_
      refine g_if_eq (tgt := 25) (T_X12_laysReach 11 _ _ _ rfl) (by decide) (fun cc => ?_) (fun cc => ?_)
      · replace H := ite_p cc H
        refine g_iconst (T_X12_laysReach 14 _ _ _ rfl) ⟨by decide, by decide⟩ ?_
        refine g_weak [true, true, false] ?_
        exact R_J_X12_laysReach_26 N (L_X12_laysReach_2 N n) ih _ _ _ _ _ H
      · replace H := ite_n cc H
        refine g_iconst (T_X12_laysReach 12 _ _ _ rfl) ⟨by decide, by decide⟩ ?_
        refine g_goto (tgt := 26) (T_X12_laysReach 13 _ _ _ rfl) (by decide) ?_
        refine g_weak [true, true, false] ?_
        exact R_J_X12_laysReach_26 N (L_X12_laysReach_2 N n) ih _ _ _ _ _ H
def F_X12_laysReach (N : Nat) (h : Hp) : Option (Hp) :=
  L_X12_laysReach_2 N  N 0 h
set_option maxRecDepth 100000 in
set_option maxHeartbeats 4000000 in
theorem R_X12_laysReach (N : Nat) (h : Hp) (res : Hp) (H : F_X12_laysReach N h = some res) : Runs M_X12_laysReach 3 [.inr 84] h (Qv res) := by
  refine Runs.of rfl (Nat.le_of_ble_eq_true rfl) ?_
  show Go M_X12_laysReach 3 0 [some (.inr 84), none, none] [] h (Qv res)
  unfold F_X12_laysReach at H
  refine g_iconst (T_X12_laysReach 0 _ _ _ rfl) ⟨by decide, by decide⟩ ?_
  refine g_istore_n (T_X12_laysReach 1 _ _ _ rfl) (by decide) ?_
  refine g_weak [true, true, false] ?_
  refine R_L_X12_laysReach_2 N   _ _ _ _ H
def J_X12_bestBy_51 (N : Nat) (k4 : Int → Int → Hp → Option (Int × Hp)) (x2 : Int) (x3 : Int) (h : Hp) : Option (Int × Hp) :=
  bnd (w32 (x3 + 1)) fun y1 =>
  k4 x2 y1 h
set_option maxRecDepth 100000 in
set_option maxHeartbeats 4000000 in
theorem R_J_X12_bestBy_51 (N : Nat) (k4 : Int → Int → Hp → Option (Int × Hp)) (hk4 : ∀ (x2 : Int) (x3 : Int) (h : Hp) (res : Int × Hp), k4 x2 x3 h = some res → Go M_X12_bestBy 1 4 [some (.inr 84), some (.inr 122), some (.inl x2), some (.inl x3)] [] h (Qi res)) (x2 : Int) (x3 : Int) (h : Hp) (res : Int × Hp) (H : J_X12_bestBy_51 N k4 x2 x3 h = some res) : Go M_X12_bestBy 1 51 [some (.inr 84), some (.inr 122), some (.inl x2), some (.inl x3)] [] h (Qi res) := by
  unfold J_X12_bestBy_51 at H
  refine g_iincB (T_X12_bestBy 34 _ _ _ rfl) rfl (by decide) H fun y1 H => ?_
  refine g_goto (tgt := 4) (T_X12_bestBy 35 _ _ _ rfl) (by decide) ?_
  refine g_weak [true, true, true, true] ?_
  exact hk4 _ _ _ _ H
def L_X12_bestBy_4 (N : Nat) : Nat → Int → Int → Hp → Option (Int × Hp)
  | 0, _, _, _ => none
  | n + 1, x2, x3, h =>
    if 14 ≤ x3 then
      some (x2, h)
    else
    grd (0 ≤ x3 ∧ x3 < 14) <|
    grd (0 ≤ x2 ∧ x2 < 14) <|
    if (h 120 x2.toNat) < (h 120 x3.toNat) then
      J_X12_bestBy_51 N (L_X12_bestBy_4 N n) x3 x3 h
    else
    grd (0 ≤ x3 ∧ x3 < 14) <|
    grd (0 ≤ x2 ∧ x2 < 14) <|
    if (h 120 x3.toNat) = (h 120 x2.toNat) then
      grd (0 ≤ x3 ∧ x3 < 14) <|
      grd (0 ≤ x2 ∧ x2 < 14) <|
      if (h 121 x2.toNat) ≤ (h 121 x3.toNat) then
        J_X12_bestBy_51 N (L_X12_bestBy_4 N n) x2 x3 h
      else
      J_X12_bestBy_51 N (L_X12_bestBy_4 N n) x3 x3 h
    else
    J_X12_bestBy_51 N (L_X12_bestBy_4 N n) x2 x3 h
set_option maxRecDepth 100000 in
set_option maxHeartbeats 4000000 in
theorem R_L_X12_bestBy_4 (N : Nat) : ∀ (n : Nat) (x2 : Int) (x3 : Int) (h : Hp) (res : Int × Hp), L_X12_bestBy_4 N n x2 x3 h = some res → Go M_X12_bestBy 1 4 [some (.inr 84), some (.inr 122), some (.inl x2), some (.inl x3)] [] h (Qi res)
  | 0, _, _, _, _, H => by cases H
  | n + 1, x2, x3, h, res, H => by
    have ih := R_L_X12_bestBy_4 N n
    simp only [L_X12_bestBy_4] at H
    refine g_iload_n (T_X12_bestBy 4 _ _ _ rfl) rfl ?_
    refine g_bipush (T_X12_bestBy 5 _ _ _ rfl) (by decide) ?_
    refine g_icmp_ge (tgt := 57) (T_X12_bestBy 6 _ _ _ rfl) (by decide) (fun cc => ?_) (fun cc => ?_)
    · replace H := ite_p cc H
      refine g_iload_n (T_X12_bestBy 36 _ _ _ rfl) rfl ?_
      exact g_iret (T_X12_bestBy 37 _ _ _ rfl) rfl (qi_of H)
    · replace H := ite_n cc H
      refine g_aload_n (T_X12_bestBy 7 _ _ _ rfl) rfl ?_
      refine g_getR (c := 83) (r := 121) (T_X12_bestBy 8 _ _ _ rfl) fl_X12_119 rfl (nR rfl) rfl (by decide) ?_
      refine g_iload_n (T_X12_bestBy 9 _ _ _ rfl) rfl ?_
      obtain ⟨hg, H⟩ := grd_some H
      refine g_iald (c := 120) (T_X12_bestBy 10 _ _ _ rfl) rfl hg ?_
      refine g_aload_n (T_X12_bestBy 11 _ _ _ rfl) rfl ?_
      refine g_getR (c := 83) (r := 121) (T_X12_bestBy 12 _ _ _ rfl) fl_X12_119 rfl (nR rfl) rfl (by decide) ?_
      refine g_iload_n (T_X12_bestBy 13 _ _ _ rfl) rfl ?_
      obtain ⟨hg, H⟩ := grd_some H
      refine g_iald (c := 120) (T_X12_bestBy 14 _ _ _ rfl) rfl hg ?_
      refine g_icmp_gt (tgt := 49) (T_X12_bestBy 15 _ _ _ rfl) (by decide) (fun cc => ?_) (fun cc => ?_)
      · replace H := ite_p cc H
        refine g_iload_n (T_X12_bestBy 32 _ _ _ rfl) rfl ?_
        refine g_istore_n (T_X12_bestBy 33 _ _ _ rfl) (by decide) ?_
        refine g_weak [true, true, true, true] ?_
        exact R_J_X12_bestBy_51 N (L_X12_bestBy_4 N n) ih _ _ _ _ H
      · replace H := ite_n cc H
        refine g_aload_n (T_X12_bestBy 16 _ _ _ rfl) rfl ?_
        refine g_getR (c := 83) (r := 121) (T_X12_bestBy 17 _ _ _ rfl) fl_X12_119 rfl (nR rfl) rfl (by decide) ?_
        refine g_iload_n (T_X12_bestBy 18 _ _ _ rfl) rfl ?_
        obtain ⟨hg, H⟩ := grd_some H
        refine g_iald (c := 120) (T_X12_bestBy 19 _ _ _ rfl) rfl hg ?_
        refine g_aload_n (T_X12_bestBy 20 _ _ _ rfl) rfl ?_
        refine g_getR (c := 83) (r := 121) (T_X12_bestBy 21 _ _ _ rfl) fl_X12_119 rfl (nR rfl) rfl (by decide) ?_
        refine g_iload_n (T_X12_bestBy 22 _ _ _ rfl) rfl ?_
        obtain ⟨hg, H⟩ := grd_some H
        refine g_iald (c := 120) (T_X12_bestBy 23 _ _ _ rfl) rfl hg ?_
        refine g_icmp_ne (tgt := 51) (T_X12_bestBy 24 _ _ _ rfl) (by decide) (fun cc => ?_) (fun cc => ?_)
        · replace H := ite_n cc H
          refine g_weak [true, true, true, true] ?_
          exact R_J_X12_bestBy_51 N (L_X12_bestBy_4 N n) ih _ _ _ _ H
        · replace H := ite_p cc H
          refine g_aload_n (T_X12_bestBy 25 _ _ _ rfl) rfl ?_
          refine g_iload_n (T_X12_bestBy 26 _ _ _ rfl) rfl ?_
          obtain ⟨hg, H⟩ := grd_some H
          refine g_iald (c := 121) (T_X12_bestBy 27 _ _ _ rfl) rfl hg ?_
          refine g_aload_n (T_X12_bestBy 28 _ _ _ rfl) rfl ?_
          refine g_iload_n (T_X12_bestBy 29 _ _ _ rfl) rfl ?_
          obtain ⟨hg, H⟩ := grd_some H
          refine g_iald (c := 121) (T_X12_bestBy 30 _ _ _ rfl) rfl hg ?_
          refine g_icmp_ge (tgt := 51) (T_X12_bestBy 31 _ _ _ rfl) (by decide) (fun cc => ?_) (fun cc => ?_)
          · replace H := ite_p cc H
            refine g_weak [true, true, true, true] ?_
            exact R_J_X12_bestBy_51 N (L_X12_bestBy_4 N n) ih _ _ _ _ H
          · replace H := ite_n cc H
            refine g_iload_n (T_X12_bestBy 32 _ _ _ rfl) rfl ?_
            refine g_istore_n (T_X12_bestBy 33 _ _ _ rfl) (by decide) ?_
            refine g_weak [true, true, true, true] ?_
            exact R_J_X12_bestBy_51 N (L_X12_bestBy_4 N n) ih _ _ _ _ H
def F_X12_bestBy (N : Nat) (h : Hp) : Option (Int × Hp) :=
  L_X12_bestBy_4 N  N 0 1 h
set_option maxRecDepth 100000 in
set_option maxHeartbeats 4000000 in
theorem R_X12_bestBy (N : Nat) (h : Hp) (res : Int × Hp) (H : F_X12_bestBy N h = some res) : Runs M_X12_bestBy 1 [.inr 84, .inr 122] h (Qi res) := by
  refine Runs.of rfl (Nat.le_of_ble_eq_true rfl) ?_
  show Go M_X12_bestBy 1 0 [some (.inr 84), some (.inr 122), none, none] [] h (Qi res)
  unfold F_X12_bestBy at H
  refine g_iconst (T_X12_bestBy 0 _ _ _ rfl) ⟨by decide, by decide⟩ ?_
  refine g_istore_n (T_X12_bestBy 1 _ _ _ rfl) (by decide) ?_
  refine g_iconst (T_X12_bestBy 2 _ _ _ rfl) ⟨by decide, by decide⟩ ?_
  refine g_istore_n (T_X12_bestBy 3 _ _ _ rfl) (by decide) ?_
  refine g_weak [true, true, true, true] ?_
  refine R_L_X12_bestBy_4 N   _ _ _ _ _ H
def J_X12_bestBy_v2_51 (N : Nat) (k4 : Int → Int → Hp → Option (Int × Hp)) (x2 : Int) (x3 : Int) (h : Hp) : Option (Int × Hp) :=
  bnd (w32 (x3 + 1)) fun y1 =>
  k4 x2 y1 h
set_option maxRecDepth 100000 in
set_option maxHeartbeats 4000000 in
theorem R_J_X12_bestBy_v2_51 (N : Nat) (k4 : Int → Int → Hp → Option (Int × Hp)) (hk4 : ∀ (x2 : Int) (x3 : Int) (h : Hp) (res : Int × Hp), k4 x2 x3 h = some res → Go M_X12_bestBy 1 4 [some (.inr 84), some (.inr 123), some (.inl x2), some (.inl x3)] [] h (Qi res)) (x2 : Int) (x3 : Int) (h : Hp) (res : Int × Hp) (H : J_X12_bestBy_v2_51 N k4 x2 x3 h = some res) : Go M_X12_bestBy 1 51 [some (.inr 84), some (.inr 123), some (.inl x2), some (.inl x3)] [] h (Qi res) := by
  unfold J_X12_bestBy_v2_51 at H
  refine g_iincB (T_X12_bestBy 34 _ _ _ rfl) rfl (by decide) H fun y1 H => ?_
  refine g_goto (tgt := 4) (T_X12_bestBy 35 _ _ _ rfl) (by decide) ?_
  refine g_weak [true, true, true, true] ?_
  exact hk4 _ _ _ _ H
def L_X12_bestBy_v2_4 (N : Nat) : Nat → Int → Int → Hp → Option (Int × Hp)
  | 0, _, _, _ => none
  | n + 1, x2, x3, h =>
    if 14 ≤ x3 then
      some (x2, h)
    else
    grd (0 ≤ x3 ∧ x3 < 14) <|
    grd (0 ≤ x2 ∧ x2 < 14) <|
    if (h 120 x2.toNat) < (h 120 x3.toNat) then
      J_X12_bestBy_v2_51 N (L_X12_bestBy_v2_4 N n) x3 x3 h
    else
    grd (0 ≤ x3 ∧ x3 < 14) <|
    grd (0 ≤ x2 ∧ x2 < 14) <|
    if (h 120 x3.toNat) = (h 120 x2.toNat) then
      grd (0 ≤ x3 ∧ x3 < 14) <|
      grd (0 ≤ x2 ∧ x2 < 14) <|
      if (h 122 x2.toNat) ≤ (h 122 x3.toNat) then
        J_X12_bestBy_v2_51 N (L_X12_bestBy_v2_4 N n) x2 x3 h
      else
      J_X12_bestBy_v2_51 N (L_X12_bestBy_v2_4 N n) x3 x3 h
    else
    J_X12_bestBy_v2_51 N (L_X12_bestBy_v2_4 N n) x2 x3 h
set_option maxRecDepth 100000 in
set_option maxHeartbeats 4000000 in
theorem R_L_X12_bestBy_v2_4 (N : Nat) : ∀ (n : Nat) (x2 : Int) (x3 : Int) (h : Hp) (res : Int × Hp), L_X12_bestBy_v2_4 N n x2 x3 h = some res → Go M_X12_bestBy 1 4 [some (.inr 84), some (.inr 123), some (.inl x2), some (.inl x3)] [] h (Qi res)
  | 0, _, _, _, _, H => by cases H
  | n + 1, x2, x3, h, res, H => by
    have ih := R_L_X12_bestBy_v2_4 N n
    simp only [L_X12_bestBy_v2_4] at H
    refine g_iload_n (T_X12_bestBy 4 _ _ _ rfl) rfl ?_
    refine g_bipush (T_X12_bestBy 5 _ _ _ rfl) (by decide) ?_
    refine g_icmp_ge (tgt := 57) (T_X12_bestBy 6 _ _ _ rfl) (by decide) (fun cc => ?_) (fun cc => ?_)
    · replace H := ite_p cc H
      refine g_iload_n (T_X12_bestBy 36 _ _ _ rfl) rfl ?_
      exact g_iret (T_X12_bestBy 37 _ _ _ rfl) rfl (qi_of H)
    · replace H := ite_n cc H
      refine g_aload_n (T_X12_bestBy 7 _ _ _ rfl) rfl ?_
      refine g_getR (c := 83) (r := 121) (T_X12_bestBy 8 _ _ _ rfl) fl_X12_119 rfl (nR rfl) rfl (by decide) ?_
      refine g_iload_n (T_X12_bestBy 9 _ _ _ rfl) rfl ?_
      obtain ⟨hg, H⟩ := grd_some H
      refine g_iald (c := 120) (T_X12_bestBy 10 _ _ _ rfl) rfl hg ?_
      refine g_aload_n (T_X12_bestBy 11 _ _ _ rfl) rfl ?_
      refine g_getR (c := 83) (r := 121) (T_X12_bestBy 12 _ _ _ rfl) fl_X12_119 rfl (nR rfl) rfl (by decide) ?_
      refine g_iload_n (T_X12_bestBy 13 _ _ _ rfl) rfl ?_
      obtain ⟨hg, H⟩ := grd_some H
      refine g_iald (c := 120) (T_X12_bestBy 14 _ _ _ rfl) rfl hg ?_
      refine g_icmp_gt (tgt := 49) (T_X12_bestBy 15 _ _ _ rfl) (by decide) (fun cc => ?_) (fun cc => ?_)
      · replace H := ite_p cc H
        refine g_iload_n (T_X12_bestBy 32 _ _ _ rfl) rfl ?_
        refine g_istore_n (T_X12_bestBy 33 _ _ _ rfl) (by decide) ?_
        refine g_weak [true, true, true, true] ?_
        exact R_J_X12_bestBy_v2_51 N (L_X12_bestBy_v2_4 N n) ih _ _ _ _ H
      · replace H := ite_n cc H
        refine g_aload_n (T_X12_bestBy 16 _ _ _ rfl) rfl ?_
        refine g_getR (c := 83) (r := 121) (T_X12_bestBy 17 _ _ _ rfl) fl_X12_119 rfl (nR rfl) rfl (by decide) ?_
        refine g_iload_n (T_X12_bestBy 18 _ _ _ rfl) rfl ?_
        obtain ⟨hg, H⟩ := grd_some H
        refine g_iald (c := 120) (T_X12_bestBy 19 _ _ _ rfl) rfl hg ?_
        refine g_aload_n (T_X12_bestBy 20 _ _ _ rfl) rfl ?_
        refine g_getR (c := 83) (r := 121) (T_X12_bestBy 21 _ _ _ rfl) fl_X12_119 rfl (nR rfl) rfl (by decide) ?_
        refine g_iload_n (T_X12_bestBy 22 _ _ _ rfl) rfl ?_
        obtain ⟨hg, H⟩ := grd_some H
        refine g_iald (c := 120) (T_X12_bestBy 23 _ _ _ rfl) rfl hg ?_
        refine g_icmp_ne (tgt := 51) (T_X12_bestBy 24 _ _ _ rfl) (by decide) (fun cc => ?_) (fun cc => ?_)
        · replace H := ite_n cc H
          refine g_weak [true, true, true, true] ?_
          exact R_J_X12_bestBy_v2_51 N (L_X12_bestBy_v2_4 N n) ih _ _ _ _ H
        · replace H := ite_p cc H
          refine g_aload_n (T_X12_bestBy 25 _ _ _ rfl) rfl ?_
          refine g_iload_n (T_X12_bestBy 26 _ _ _ rfl) rfl ?_
          obtain ⟨hg, H⟩ := grd_some H
          refine g_iald (c := 122) (T_X12_bestBy 27 _ _ _ rfl) rfl hg ?_
          refine g_aload_n (T_X12_bestBy 28 _ _ _ rfl) rfl ?_
          refine g_iload_n (T_X12_bestBy 29 _ _ _ rfl) rfl ?_
          obtain ⟨hg, H⟩ := grd_some H
          refine g_iald (c := 122) (T_X12_bestBy 30 _ _ _ rfl) rfl hg ?_
          refine g_icmp_ge (tgt := 51) (T_X12_bestBy 31 _ _ _ rfl) (by decide) (fun cc => ?_) (fun cc => ?_)
          · replace H := ite_p cc H
            refine g_weak [true, true, true, true] ?_
            exact R_J_X12_bestBy_v2_51 N (L_X12_bestBy_v2_4 N n) ih _ _ _ _ H
          · replace H := ite_n cc H
            refine g_iload_n (T_X12_bestBy 32 _ _ _ rfl) rfl ?_
            refine g_istore_n (T_X12_bestBy 33 _ _ _ rfl) (by decide) ?_
            refine g_weak [true, true, true, true] ?_
            exact R_J_X12_bestBy_v2_51 N (L_X12_bestBy_v2_4 N n) ih _ _ _ _ H
def F_X12_bestBy_v2 (N : Nat) (h : Hp) : Option (Int × Hp) :=
  L_X12_bestBy_v2_4 N  N 0 1 h
set_option maxRecDepth 100000 in
set_option maxHeartbeats 4000000 in
theorem R_X12_bestBy_v2 (N : Nat) (h : Hp) (res : Int × Hp) (H : F_X12_bestBy_v2 N h = some res) : Runs M_X12_bestBy 1 [.inr 84, .inr 123] h (Qi res) := by
  refine Runs.of rfl (Nat.le_of_ble_eq_true rfl) ?_
  show Go M_X12_bestBy 1 0 [some (.inr 84), some (.inr 123), none, none] [] h (Qi res)
  unfold F_X12_bestBy_v2 at H
  refine g_iconst (T_X12_bestBy 0 _ _ _ rfl) ⟨by decide, by decide⟩ ?_
  refine g_istore_n (T_X12_bestBy 1 _ _ _ rfl) (by decide) ?_
  refine g_iconst (T_X12_bestBy 2 _ _ _ rfl) ⟨by decide, by decide⟩ ?_
  refine g_istore_n (T_X12_bestBy 3 _ _ _ rfl) (by decide) ?_
  refine g_weak [true, true, true, true] ?_
  refine R_L_X12_bestBy_v2_4 N   _ _ _ _ _ H
def F_X12_pitAt (N : Nat) (x1 : Int) (h : Hp) : Option (Int × Hp) :=
  bd (F_X12_in N x1 0 3 h) fun y2 h1 =>
  if y2 = 0 then
    some ((-1), h1)
  else
  if (h1 83 12) = 0 then
    some ((-2), h1)
  else
  bv (F_X12_laysReach N h1) fun h3 =>
  bd (F_X12_bestBy N h3) fun y5 h4 =>
  bd (F_X12_bestBy_v2 N h4) fun y7 h6 =>
  if x1 = 0 then
    some (y5, h6)
  else
  if x1 = 1 then
    grd (0 ≤ y5 ∧ y5 < 14) <|
    some ((h6 121 y5.toNat), h6)
  else
  if x1 = 2 then
    some (y7, h6)
  else
  grd (0 ≤ y7 ∧ y7 < 14) <|
  some ((h6 122 y7.toNat), h6)
set_option maxRecDepth 100000 in
set_option maxHeartbeats 4000000 in
theorem R_X12_pitAt (N : Nat) (x1 : Int) (h : Hp) (res : Int × Hp) (H : F_X12_pitAt N x1 h = some res) : Runs M_X12_pitAt 4 [.inr 84, .inl x1] h (Qi res) := by
  refine Runs.of rfl (Nat.le_of_ble_eq_true rfl) ?_
  show Go M_X12_pitAt 4 0 [some (.inr 84), some (.inl x1), none, none] [] h (Qi res)
  unfold F_X12_pitAt at H
  refine g_iload_n (T_X12_pitAt 0 _ _ _ rfl) rfl ?_
  refine g_iconst (T_X12_pitAt 1 _ _ _ rfl) ⟨by decide, by decide⟩ ?_
  refine g_iconst (T_X12_pitAt 2 _ _ _ rfl) ⟨by decide, by decide⟩ ?_
  obtain ⟨y2, h1, hq, H⟩ := bd_some H
  refine g_callSi (M' := M_X12_in) (av := [.inl x1, .inl 0, .inl 3]) (st := []) (T_X12_pitAt 3 _ _ _ rfl) ml_X12_155 cb_X12_in rfl (Nat.le_of_ble_eq_true rfl) (by omega) (R_X12_in N _ _ _ _ _ hq) ?_
  refine g_if_ne (tgt := 11) (T_X12_pitAt 4 _ _ _ rfl) (by decide) (fun cc => ?_) (fun cc => ?_)
  · replace H := ite_n cc H
    refine g_aload_n (T_X12_pitAt 7 _ _ _ rfl) rfl ?_
    refine g_getI (c := 83) (T_X12_pitAt 8 _ _ _ rfl) fl_X12_135 rfl (Or.inl rfl) ?_
    refine g_if_ne (tgt := 21) (T_X12_pitAt 9 _ _ _ rfl) (by decide) (fun cc => ?_) (fun cc => ?_)
    · replace H := ite_n cc H
      refine g_aload_n (T_X12_pitAt 12 _ _ _ rfl) rfl ?_
      obtain ⟨h3, hq, H⟩ := bv_some H
      refine g_callVv (M' := M_X12_laysReach) (c := 83) (av := []) (st := []) (T_X12_pitAt 13 _ _ _ rfl) ml_X12_369 cb_X12_laysReach rfl rfl (Nat.le_of_ble_eq_true rfl) (by omega) (R_X12_laysReach N _ _ hq) ?_
      refine g_aload_n (T_X12_pitAt 14 _ _ _ rfl) rfl ?_
      refine g_aload_n (T_X12_pitAt 15 _ _ _ rfl) rfl ?_
      refine g_getR (c := 83) (r := 122) (T_X12_pitAt 16 _ _ _ rfl) fl_X12_122 rfl (nR rfl) rfl (by decide) ?_
      obtain ⟨y5, h4, hq, H⟩ := bd_some H
      refine g_callVi (M' := M_X12_bestBy) (c := 83) (av := [.inr 122]) (st := []) (T_X12_pitAt 17 _ _ _ rfl) ml_X12_372 cb_X12_bestBy rfl rfl (Nat.le_of_ble_eq_true rfl) (by omega) (R_X12_bestBy N _ _ hq) ?_
      refine g_istore_n (T_X12_pitAt 18 _ _ _ rfl) (by decide) ?_
      refine g_aload_n (T_X12_pitAt 19 _ _ _ rfl) rfl ?_
      refine g_aload_n (T_X12_pitAt 20 _ _ _ rfl) rfl ?_
      refine g_getR (c := 83) (r := 123) (T_X12_pitAt 21 _ _ _ rfl) fl_X12_125 rfl (nR rfl) rfl (by decide) ?_
      obtain ⟨y7, h6, hq, H⟩ := bd_some H
      refine g_callVi (M' := M_X12_bestBy) (c := 83) (av := [.inr 123]) (st := []) (T_X12_pitAt 22 _ _ _ rfl) ml_X12_372 cb_X12_bestBy rfl rfl (Nat.le_of_ble_eq_true rfl) (by omega) (R_X12_bestBy_v2 N _ _ hq) ?_
      refine g_istore_n (T_X12_pitAt 23 _ _ _ rfl) (by decide) ?_
      refine g_iload_n (T_X12_pitAt 24 _ _ _ rfl) rfl ?_
      refine g_if_ne (tgt := 51) (T_X12_pitAt 25 _ _ _ rfl) (by decide) (fun cc => ?_) (fun cc => ?_)
      · replace H := ite_n cc H
        refine g_iload_n (T_X12_pitAt 28 _ _ _ rfl) rfl ?_
        refine g_iconst (T_X12_pitAt 29 _ _ _ rfl) ⟨by decide, by decide⟩ ?_
        refine g_icmp_ne (tgt := 65) (T_X12_pitAt 30 _ _ _ rfl) (by decide) (fun cc => ?_) (fun cc => ?_)
        · replace H := ite_n cc H
          refine g_iload_n (T_X12_pitAt 36 _ _ _ rfl) rfl ?_
          refine g_iconst (T_X12_pitAt 37 _ _ _ rfl) ⟨by decide, by decide⟩ ?_
          refine g_icmp_ne (tgt := 74) (T_X12_pitAt 38 _ _ _ rfl) (by decide) (fun cc => ?_) (fun cc => ?_)
          · replace H := ite_n cc H
            refine g_aload_n (T_X12_pitAt 41 _ _ _ rfl) rfl ?_
            refine g_getR (c := 83) (r := 123) (T_X12_pitAt 42 _ _ _ rfl) fl_X12_125 rfl (nR rfl) rfl (by decide) ?_
            refine g_iload_n (T_X12_pitAt 43 _ _ _ rfl) rfl ?_
            obtain ⟨hg, H⟩ := grd_some H
            refine g_iald (c := 122) (T_X12_pitAt 44 _ _ _ rfl) rfl hg ?_
            exact g_iret (T_X12_pitAt 45 _ _ _ rfl) rfl (qi_of H)
          · replace H := ite_p cc H
            refine g_iload_n (T_X12_pitAt 39 _ _ _ rfl) rfl ?_
            refine g_goto (tgt := 80) (T_X12_pitAt 40 _ _ _ rfl) (by decide) ?_
            exact g_iret (T_X12_pitAt 45 _ _ _ rfl) rfl (qi_of H)
        · replace H := ite_p cc H
          refine g_aload_n (T_X12_pitAt 31 _ _ _ rfl) rfl ?_
          refine g_getR (c := 83) (r := 122) (T_X12_pitAt 32 _ _ _ rfl) fl_X12_122 rfl (nR rfl) rfl (by decide) ?_
          refine g_iload_n (T_X12_pitAt 33 _ _ _ rfl) rfl ?_
          obtain ⟨hg, H⟩ := grd_some H
          refine g_iald (c := 121) (T_X12_pitAt 34 _ _ _ rfl) rfl hg ?_
          refine g_goto (tgt := 80) (T_X12_pitAt 35 _ _ _ rfl) (by decide) ?_
          exact g_iret (T_X12_pitAt 45 _ _ _ rfl) rfl (qi_of H)
      · replace H := ite_p cc H
        refine g_iload_n (T_X12_pitAt 26 _ _ _ rfl) rfl ?_
        refine g_goto (tgt := 80) (T_X12_pitAt 27 _ _ _ rfl) (by decide) ?_
        exact g_iret (T_X12_pitAt 45 _ _ _ rfl) rfl (qi_of H)
    · replace H := ite_p cc H
      refine g_bipush (T_X12_pitAt 10 _ _ _ rfl) (by decide) ?_
      exact g_iret (T_X12_pitAt 11 _ _ _ rfl) rfl (qi_of H)
  · replace H := ite_p cc H
    refine g_iconst (T_X12_pitAt 5 _ _ _ rfl) ⟨by decide, by decide⟩ ?_
    exact g_iret (T_X12_pitAt 6 _ _ _ rfl) rfl (qi_of H)
def J_X12_cut_102 (N : Nat) (k31 : Int → Int → Int → Int → Int → Hp → Option (Int × Hp)) (x1 : Int) (x2 : Int) (x3 : Int) (x4 : Int) (x5 : Int) (h : Hp) : Option (Int × Hp) :=
  bnd (w32 (x5 + 1)) fun y1 =>
  k31 x1 x2 x3 x4 y1 h
set_option maxRecDepth 100000 in
set_option maxHeartbeats 4000000 in
theorem R_J_X12_cut_102 (N : Nat) (k31 : Int → Int → Int → Int → Int → Hp → Option (Int × Hp)) (hk31 : ∀ (x1 : Int) (x2 : Int) (x3 : Int) (x4 : Int) (x5 : Int) (h : Hp) (res : Int × Hp), k31 x1 x2 x3 x4 x5 h = some res → Go M_X12_cut 4 31 [some (.inr 84), some (.inl x1), some (.inl x2), some (.inl x3), some (.inl x4), some (.inl x5)] [] h (Qi res)) (x1 : Int) (x2 : Int) (x3 : Int) (x4 : Int) (x5 : Int) (h : Hp) (res : Int × Hp) (H : J_X12_cut_102 N k31 x1 x2 x3 x4 x5 h = some res) : Go M_X12_cut 4 102 [some (.inr 84), some (.inl x1), some (.inl x2), some (.inl x3), some (.inl x4), some (.inl x5)] [] h (Qi res) := by
  unfold J_X12_cut_102 at H
  refine g_iincB (T_X12_cut 58 _ _ _ rfl) rfl (by decide) H fun y1 H => ?_
  refine g_goto (tgt := 31) (T_X12_cut 59 _ _ _ rfl) (by decide) ?_
  refine g_weak [true, true, true, true, true, true] ?_
  exact hk31 _ _ _ _ _ _ _ H
def J_X12_cut_97 (N : Nat) (k31 : Int → Int → Int → Int → Int → Hp → Option (Int × Hp)) (x1 : Int) (x2 : Int) (x4 : Int) (x5 : Int) (s0 : Int) (h : Hp) : Option (Int × Hp) :=
  bnd ((w32 (x2 + 1))) fun y1 =>
  J_X12_cut_102 N k31 x1 y1 s0 x4 x5 h
set_option maxRecDepth 100000 in
set_option maxHeartbeats 4000000 in
theorem R_J_X12_cut_97 (N : Nat) (k31 : Int → Int → Int → Int → Int → Hp → Option (Int × Hp)) (hk31 : ∀ (x1 : Int) (x2 : Int) (x3 : Int) (x4 : Int) (x5 : Int) (h : Hp) (res : Int × Hp), k31 x1 x2 x3 x4 x5 h = some res → Go M_X12_cut 4 31 [some (.inr 84), some (.inl x1), some (.inl x2), some (.inl x3), some (.inl x4), some (.inl x5)] [] h (Qi res)) (x1 : Int) (x2 : Int) (x4 : Int) (x5 : Int) (s0 : Int) (h : Hp) (res : Int × Hp) (H : J_X12_cut_97 N k31 x1 x2 x4 x5 s0 h = some res) : Go M_X12_cut 4 97 [some (.inr 84), some (.inl x1), some (.inl x2), none, some (.inl x4), some (.inl x5)] [.inl s0] h (Qi res) := by
  unfold J_X12_cut_97 at H
  refine g_istore_n (T_X12_cut 53 _ _ _ rfl) (by decide) ?_
  refine g_iload_n (T_X12_cut 54 _ _ _ rfl) rfl ?_
  refine g_iconst (T_X12_cut 55 _ _ _ rfl) ⟨by decide, by decide⟩ ?_
  refine g_iadd (T_X12_cut 56 _ _ _ rfl) ?_
  refine g_bndI H fun y1 H => ?_
  refine g_istore_n (T_X12_cut 57 _ _ _ rfl) (by decide) ?_
  refine g_weak [true, true, true, true, true, true] ?_
  exact R_J_X12_cut_102 N k31 hk31 _ _ _ _ _ _ _ H
def L_X12_cut_31 (N : Nat) (k108 : Int → Int → Int → Int → Hp → Option (Int × Hp)) : Nat → Int → Int → Int → Int → Int → Hp → Option (Int × Hp)
  | 0, _, _, _, _, _, _ => none
  | n + 1, x1, x2, x3, x4, x5, h =>
    if 14 ≤ x5 then
      k108 x1 x2 x3 x4 h
    else
    grd (0 ≤ (w32 ((w32 (14 * x4)) + x5)) ∧ (w32 ((w32 (14 * x4)) + x5)) < 196) <|
    if (h 90 (w32 ((w32 (14 * x4)) + x5)).toNat) = 0 then
      J_X12_cut_102 N (L_X12_cut_31 N k108 n) x1 x2 x3 x4 x5 h
    else
    bv (F_X12_laysWays N x4 x5 h) fun h1 =>
    bd (F_X12_farOf N x4 x5 h1) fun y3 h2 =>
    if 1000000 ≤ y3 then
      if x2 = 0 then
        J_X12_cut_97 N (L_X12_cut_31 N k108 n) x1 x2 x4 x5 (w32 ((w32 (14 * x4)) + x5)) h2
      else
      J_X12_cut_97 N (L_X12_cut_31 N k108 n) x1 x2 x4 x5 x3 h2
    else
    J_X12_cut_102 N (L_X12_cut_31 N k108 n) x1 x2 x3 x4 x5 h2
set_option maxRecDepth 100000 in
set_option maxHeartbeats 4000000 in
theorem R_L_X12_cut_31 (N : Nat) (k108 : Int → Int → Int → Int → Hp → Option (Int × Hp)) (hk108 : ∀ (x1 : Int) (x2 : Int) (x3 : Int) (x4 : Int) (h : Hp) (res : Int × Hp), k108 x1 x2 x3 x4 h = some res → Go M_X12_cut 4 108 [some (.inr 84), some (.inl x1), some (.inl x2), some (.inl x3), some (.inl x4), none] [] h (Qi res)) : ∀ (n : Nat) (x1 : Int) (x2 : Int) (x3 : Int) (x4 : Int) (x5 : Int) (h : Hp) (res : Int × Hp), L_X12_cut_31 N k108 n x1 x2 x3 x4 x5 h = some res → Go M_X12_cut 4 31 [some (.inr 84), some (.inl x1), some (.inl x2), some (.inl x3), some (.inl x4), some (.inl x5)] [] h (Qi res)
  | 0, _, _, _, _, _, _, _, H => by cases H
  | n + 1, x1, x2, x3, x4, x5, h, res, H => by
    have ih := R_L_X12_cut_31 N k108 hk108 n
    simp only [L_X12_cut_31] at H
    refine g_iload (T_X12_cut 20 _ _ _ rfl) rfl ?_
    refine g_bipush (T_X12_cut 21 _ _ _ rfl) (by decide) ?_
    refine g_icmp_ge (tgt := 108) (T_X12_cut 22 _ _ _ rfl) (by decide) (fun cc => ?_) (fun cc => ?_)
    · replace H := ite_p cc H
      refine g_weak [true, true, true, true, true, false] ?_
      exact hk108 _ _ _ _ _ _ H
    · replace H := ite_n cc H
      refine g_aload_n (T_X12_cut 23 _ _ _ rfl) rfl ?_
      refine g_getR (c := 83) (r := 91) (T_X12_cut 24 _ _ _ rfl) fl_X12_28 rfl (nR rfl) rfl (by decide) ?_
      refine g_bipush (T_X12_cut 25 _ _ _ rfl) (by decide) ?_
      refine g_iload (T_X12_cut 26 _ _ _ rfl) rfl ?_
      refine g_imul (T_X12_cut 27 _ _ _ rfl) ?_
      refine g_iload (T_X12_cut 28 _ _ _ rfl) rfl ?_
      refine g_iadd (T_X12_cut 29 _ _ _ rfl) ?_
      obtain ⟨hg, H⟩ := grd_some H
      refine g_iald (c := 90) (T_X12_cut 30 _ _ _ rfl) rfl hg ?_
      refine g_if_ne (tgt := 57) (T_X12_cut 31 _ _ _ rfl) (by decide) (fun cc => ?_) (fun cc => ?_)
      · replace H := ite_n cc H
        refine g_aload_n (T_X12_cut 33 _ _ _ rfl) rfl ?_
        refine g_iload (T_X12_cut 34 _ _ _ rfl) rfl ?_
        refine g_iload (T_X12_cut 35 _ _ _ rfl) rfl ?_
        obtain ⟨h1, hq, H⟩ := bv_some H
        refine g_callVv (M' := M_X12_laysWays) (c := 83) (av := [.inl x4, .inl x5]) (st := []) (T_X12_cut 36 _ _ _ rfl) ml_X12_131 cb_X12_laysWays rfl rfl (Nat.le_of_ble_eq_true rfl) (by omega) (R_X12_laysWays N _ _ _ _ hq) ?_
        refine g_aload_n (T_X12_cut 37 _ _ _ rfl) rfl ?_
        refine g_iload (T_X12_cut 38 _ _ _ rfl) rfl ?_
        refine g_iload (T_X12_cut 39 _ _ _ rfl) rfl ?_
        obtain ⟨y3, h2, hq, H⟩ := bd_some H
        refine g_callVi (M' := M_X12_farOf) (c := 83) (av := [.inl x4, .inl x5]) (st := []) (T_X12_cut 40 _ _ _ rfl) ml_X12_293 cb_X12_farOf rfl rfl (Nat.le_of_ble_eq_true rfl) (by omega) (R_X12_farOf N _ _ _ _ hq) ?_
        refine g_ldc (T_X12_cut 41 _ _ _ rfl) kc_X12_150 ⟨by decide, by decide⟩ ?_
        refine g_icmp_ge (tgt := 81) (T_X12_cut 42 _ _ _ rfl) (by decide) (fun cc => ?_) (fun cc => ?_)
        · replace H := ite_p cc H
          refine g_iload_n (T_X12_cut 44 _ _ _ rfl) rfl ?_
          refine g_if_ne (tgt := 96) (T_X12_cut 45 _ _ _ rfl) (by decide) (fun cc => ?_) (fun cc => ?_)
          · replace H := ite_n cc H
            refine g_iload_n (T_X12_cut 52 _ _ _ rfl) rfl ?_
            refine g_weak [true, true, true, false, true, true] ?_
            exact R_J_X12_cut_97 N (L_X12_cut_31 N k108 n) ih _ _ _ _ _ _ _ H
          · replace H := ite_p cc H
            refine g_bipush (T_X12_cut 46 _ _ _ rfl) (by decide) ?_
            refine g_iload (T_X12_cut 47 _ _ _ rfl) rfl ?_
            refine g_imul (T_X12_cut 48 _ _ _ rfl) ?_
            refine g_iload (T_X12_cut 49 _ _ _ rfl) rfl ?_
            refine g_iadd (T_X12_cut 50 _ _ _ rfl) ?_
            refine g_goto (tgt := 97) (T_X12_cut 51 _ _ _ rfl) (by decide) ?_
            refine g_weak [true, true, true, false, true, true] ?_
            exact R_J_X12_cut_97 N (L_X12_cut_31 N k108 n) ih _ _ _ _ _ _ _ H
        · replace H := ite_n cc H
          refine g_goto (tgt := 102) (T_X12_cut 43 _ _ _ rfl) (by decide) ?_
          refine g_weak [true, true, true, true, true, true] ?_
          exact R_J_X12_cut_102 N (L_X12_cut_31 N k108 n) ih _ _ _ _ _ _ _ H
      · replace H := ite_p cc H
        refine g_goto (tgt := 102) (T_X12_cut 32 _ _ _ rfl) (by decide) ?_
        refine g_weak [true, true, true, true, true, true] ?_
        exact R_J_X12_cut_102 N (L_X12_cut_31 N k108 n) ih _ _ _ _ _ _ _ H
def L_X12_cut_18 (N : Nat) : Nat → Int → Int → Int → Int → Hp → Option (Int × Hp)
  | 0, _, _, _, _, _ => none
  | n + 1, x1, x2, x3, x4, h =>
    if 14 ≤ x4 then
      bv (F_X12_laysWays N (-1) (-1) h) fun h1 =>
      if x1 = 0 then
        some (x2, h1)
      else
      if x3 = (-1) then
        some ((-2), h1)
      else
      if x1 = 1 then
        some ((idiv x3 14), h1)
      else
      some ((irem x3 14), h1)
    else
    bnd ((w32 (x4 + 1))) fun y2 =>
    L_X12_cut_31 N (fun (v3 : Int) (v4 : Int) (v5 : Int) (v6 : Int) (h7 : Hp) =>
      bnd (w32 (v6 + 1)) fun y8 =>
      (L_X12_cut_18 N n) v3 v4 v5 y8 h7) N x1 x2 x3 x4 y2 h
set_option maxRecDepth 100000 in
set_option maxHeartbeats 4000000 in
theorem R_L_X12_cut_18 (N : Nat) : ∀ (n : Nat) (x1 : Int) (x2 : Int) (x3 : Int) (x4 : Int) (h : Hp) (res : Int × Hp), L_X12_cut_18 N n x1 x2 x3 x4 h = some res → Go M_X12_cut 4 18 [some (.inr 84), some (.inl x1), some (.inl x2), some (.inl x3), some (.inl x4), none] [] h (Qi res)
  | 0, _, _, _, _, _, _, H => by cases H
  | n + 1, x1, x2, x3, x4, h, res, H => by
    have ih := R_L_X12_cut_18 N n
    simp only [L_X12_cut_18] at H
    refine g_iload (T_X12_cut 13 _ _ _ rfl) rfl ?_
    refine g_bipush (T_X12_cut 14 _ _ _ rfl) (by decide) ?_
    refine g_icmp_ge (tgt := 114) (T_X12_cut 15 _ _ _ rfl) (by decide) (fun cc => ?_) (fun cc => ?_)
    · replace H := ite_p cc H
      refine g_aload_n (T_X12_cut 62 _ _ _ rfl) rfl ?_
      refine g_iconst (T_X12_cut 63 _ _ _ rfl) ⟨by decide, by decide⟩ ?_
      refine g_iconst (T_X12_cut 64 _ _ _ rfl) ⟨by decide, by decide⟩ ?_
      obtain ⟨h1, hq, H⟩ := bv_some H
      refine g_callVv (M' := M_X12_laysWays) (c := 83) (av := [.inl (-1), .inl (-1)]) (st := []) (T_X12_cut 65 _ _ _ rfl) ml_X12_131 cb_X12_laysWays rfl rfl (Nat.le_of_ble_eq_true rfl) (by omega) (R_X12_laysWays N _ _ _ _ hq) ?_
      refine g_iload_n (T_X12_cut 66 _ _ _ rfl) rfl ?_
      refine g_if_ne (tgt := 128) (T_X12_cut 67 _ _ _ rfl) (by decide) (fun cc => ?_) (fun cc => ?_)
      · replace H := ite_n cc H
        refine g_iload_n (T_X12_cut 70 _ _ _ rfl) rfl ?_
        refine g_iconst (T_X12_cut 71 _ _ _ rfl) ⟨by decide, by decide⟩ ?_
        refine g_icmp_ne (tgt := 138) (T_X12_cut 72 _ _ _ rfl) (by decide) (fun cc => ?_) (fun cc => ?_)
        · replace H := ite_n cc H
          refine g_iload_n (T_X12_cut 75 _ _ _ rfl) rfl ?_
          refine g_iconst (T_X12_cut 76 _ _ _ rfl) ⟨by decide, by decide⟩ ?_
          refine g_icmp_ne (tgt := 150) (T_X12_cut 77 _ _ _ rfl) (by decide) (fun cc => ?_) (fun cc => ?_)
          · replace H := ite_n cc H
            refine g_iload_n (T_X12_cut 82 _ _ _ rfl) rfl ?_
            refine g_bipush (T_X12_cut 83 _ _ _ rfl) (by decide) ?_
            refine g_irem (T_X12_cut 84 _ _ _ rfl) (by decide) ?_
            exact g_iret (T_X12_cut 85 _ _ _ rfl) rfl (qi_of H)
          · replace H := ite_p cc H
            refine g_iload_n (T_X12_cut 78 _ _ _ rfl) rfl ?_
            refine g_bipush (T_X12_cut 79 _ _ _ rfl) (by decide) ?_
            refine g_idiv (T_X12_cut 80 _ _ _ rfl) (by decide) ?_
            refine g_goto (tgt := 154) (T_X12_cut 81 _ _ _ rfl) (by decide) ?_
            exact g_iret (T_X12_cut 85 _ _ _ rfl) rfl (qi_of H)
        · replace H := ite_p cc H
          refine g_bipush (T_X12_cut 73 _ _ _ rfl) (by decide) ?_
          refine g_goto (tgt := 154) (T_X12_cut 74 _ _ _ rfl) (by decide) ?_
          exact g_iret (T_X12_cut 85 _ _ _ rfl) rfl (qi_of H)
      · replace H := ite_p cc H
        refine g_iload_n (T_X12_cut 68 _ _ _ rfl) rfl ?_
        refine g_goto (tgt := 154) (T_X12_cut 69 _ _ _ rfl) (by decide) ?_
        exact g_iret (T_X12_cut 85 _ _ _ rfl) rfl (qi_of H)
    · replace H := ite_n cc H
      refine g_iload (T_X12_cut 16 _ _ _ rfl) rfl ?_
      refine g_iconst (T_X12_cut 17 _ _ _ rfl) ⟨by decide, by decide⟩ ?_
      refine g_iadd (T_X12_cut 18 _ _ _ rfl) ?_
      refine g_bndI H fun y2 H => ?_
      refine g_istore (T_X12_cut 19 _ _ _ rfl) (by decide) ?_
      refine g_weak [true, true, true, true, true, true] ?_
      refine R_L_X12_cut_31 N _ (fun v3 v4 v5 v6 h7 res H => ?_) _ _ _ _ _ _ _ _ H
      · refine g_iincB (T_X12_cut 60 _ _ _ rfl) rfl (by decide) H fun y8 H => ?_
        refine g_goto (tgt := 18) (T_X12_cut 61 _ _ _ rfl) (by decide) ?_
        refine g_weak [true, true, true, true, true, false] ?_
        exact ih _ _ _ _ _ _ H
def F_X12_cut (N : Nat) (x1 : Int) (h : Hp) : Option (Int × Hp) :=
  bd (F_X12_in N x1 0 2 h) fun y2 h1 =>
  if y2 = 0 then
    some ((-1), h1)
  else
  L_X12_cut_18 N  N x1 0 (-1) 0 h1
set_option maxRecDepth 100000 in
set_option maxHeartbeats 4000000 in
theorem R_X12_cut (N : Nat) (x1 : Int) (h : Hp) (res : Int × Hp) (H : F_X12_cut N x1 h = some res) : Runs M_X12_cut 4 [.inr 84, .inl x1] h (Qi res) := by
  refine Runs.of rfl (Nat.le_of_ble_eq_true rfl) ?_
  show Go M_X12_cut 4 0 [some (.inr 84), some (.inl x1), none, none, none, none] [] h (Qi res)
  unfold F_X12_cut at H
  refine g_iload_n (T_X12_cut 0 _ _ _ rfl) rfl ?_
  refine g_iconst (T_X12_cut 1 _ _ _ rfl) ⟨by decide, by decide⟩ ?_
  refine g_iconst (T_X12_cut 2 _ _ _ rfl) ⟨by decide, by decide⟩ ?_
  obtain ⟨y2, h1, hq, H⟩ := bd_some H
  refine g_callSi (M' := M_X12_in) (av := [.inl x1, .inl 0, .inl 2]) (st := []) (T_X12_cut 3 _ _ _ rfl) ml_X12_155 cb_X12_in rfl (Nat.le_of_ble_eq_true rfl) (by omega) (R_X12_in N _ _ _ _ _ hq) ?_
  refine g_if_ne (tgt := 11) (T_X12_cut 4 _ _ _ rfl) (by decide) (fun cc => ?_) (fun cc => ?_)
  · replace H := ite_n cc H
    refine g_iconst (T_X12_cut 7 _ _ _ rfl) ⟨by decide, by decide⟩ ?_
    refine g_istore_n (T_X12_cut 8 _ _ _ rfl) (by decide) ?_
    refine g_iconst (T_X12_cut 9 _ _ _ rfl) ⟨by decide, by decide⟩ ?_
    refine g_istore_n (T_X12_cut 10 _ _ _ rfl) (by decide) ?_
    refine g_iconst (T_X12_cut 11 _ _ _ rfl) ⟨by decide, by decide⟩ ?_
    refine g_istore (T_X12_cut 12 _ _ _ rfl) (by decide) ?_
    refine g_weak [true, true, true, true, true, false] ?_
    refine R_L_X12_cut_18 N   _ _ _ _ _ _ _ H
  · replace H := ite_p cc H
    refine g_iconst (T_X12_cut 5 _ _ _ rfl) ⟨by decide, by decide⟩ ?_
    exact g_iret (T_X12_cut 6 _ _ _ rfl) rfl (qi_of H)
def F_X12_sleptBy (N : Nat) (h : Hp) : Option (Int × Hp) :=
  bv (F_X12_copies N h) fun h1 =>
  bv (F_X12_goesNight N h1) fun h2 =>
  bnd ((w32 ((h2 84 (15 : Int).toNat) - (h2 85 (15 : Int).toNat)))) fun y3 =>
  bv (F_X12_copies_v2 N h2) fun h4 =>
  some (y3, h4)
set_option maxRecDepth 100000 in
set_option maxHeartbeats 4000000 in
theorem R_X12_sleptBy (N : Nat) (h : Hp) (res : Int × Hp) (H : F_X12_sleptBy N h = some res) : Runs M_X12_sleptBy 7 [.inr 84] h (Qi res) := by
  refine Runs.of rfl (Nat.le_of_ble_eq_true rfl) ?_
  show Go M_X12_sleptBy 7 0 [some (.inr 84), none] [] h (Qi res)
  unfold F_X12_sleptBy at H
  refine g_aload_n (T_X12_sleptBy 0 _ _ _ rfl) rfl ?_
  refine g_getR (c := 83) (r := 85) (T_X12_sleptBy 1 _ _ _ rfl) fl_X12_7 rfl (nR rfl) rfl (by decide) ?_
  refine g_aload_n (T_X12_sleptBy 2 _ _ _ rfl) rfl ?_
  refine g_getR (c := 83) (r := 86) (T_X12_sleptBy 3 _ _ _ rfl) fl_X12_13 rfl (nR rfl) rfl (by decide) ?_
  obtain ⟨h1, hq, H⟩ := bv_some H
  refine g_callSv (M' := M_X12_copies) (av := [.inr 85, .inr 86]) (st := []) (T_X12_sleptBy 4 _ _ _ rfl) ml_X12_335 cb_X12_copies rfl (Nat.le_of_ble_eq_true rfl) (by omega) (R_X12_copies N _ _ hq) ?_
  refine g_aload_n (T_X12_sleptBy 5 _ _ _ rfl) rfl ?_
  obtain ⟨h2, hq, H⟩ := bv_some H
  refine g_callVv (M' := M_X12_goesNight) (c := 83) (av := []) (st := []) (T_X12_sleptBy 6 _ _ _ rfl) ml_X12_329 cb_X12_goesNight rfl rfl (Nat.le_of_ble_eq_true rfl) (by omega) (R_X12_goesNight N _ _ hq) ?_
  refine g_aload_n (T_X12_sleptBy 7 _ _ _ rfl) rfl ?_
  refine g_getR (c := 83) (r := 85) (T_X12_sleptBy 8 _ _ _ rfl) fl_X12_7 rfl (nR rfl) rfl (by decide) ?_
  refine g_bipush (T_X12_sleptBy 9 _ _ _ rfl) (by decide) ?_
  refine g_iald (c := 84) (T_X12_sleptBy 10 _ _ _ rfl) rfl (by decide) ?_
  refine g_aload_n (T_X12_sleptBy 11 _ _ _ rfl) rfl ?_
  refine g_getR (c := 83) (r := 86) (T_X12_sleptBy 12 _ _ _ rfl) fl_X12_13 rfl (nR rfl) rfl (by decide) ?_
  refine g_bipush (T_X12_sleptBy 13 _ _ _ rfl) (by decide) ?_
  refine g_iald (c := 85) (T_X12_sleptBy 14 _ _ _ rfl) rfl (by decide) ?_
  refine g_isub (T_X12_sleptBy 15 _ _ _ rfl) ?_
  refine g_bndI H fun y3 H => ?_
  refine g_istore_n (T_X12_sleptBy 16 _ _ _ rfl) (by decide) ?_
  refine g_aload_n (T_X12_sleptBy 17 _ _ _ rfl) rfl ?_
  refine g_getR (c := 83) (r := 86) (T_X12_sleptBy 18 _ _ _ rfl) fl_X12_13 rfl (nR rfl) rfl (by decide) ?_
  refine g_aload_n (T_X12_sleptBy 19 _ _ _ rfl) rfl ?_
  refine g_getR (c := 83) (r := 85) (T_X12_sleptBy 20 _ _ _ rfl) fl_X12_7 rfl (nR rfl) rfl (by decide) ?_
  obtain ⟨h4, hq, H⟩ := bv_some H
  refine g_callSv (M' := M_X12_copies) (av := [.inr 86, .inr 85]) (st := []) (T_X12_sleptBy 21 _ _ _ rfl) ml_X12_335 cb_X12_copies rfl (Nat.le_of_ble_eq_true rfl) (by omega) (R_X12_copies_v2 N _ _ hq) ?_
  refine g_iload_n (T_X12_sleptBy 22 _ _ _ rfl) rfl ?_
  exact g_iret (T_X12_sleptBy 23 _ _ _ rfl) rfl (qi_of H)
def F_X12_strike (N : Nat) (x1 : Int) (h : Hp) : Option (Int × Hp) :=
  bd (F_X12_in N x1 0 600 h) fun y2 h1 =>
  if y2 = 0 then
    some ((-1), h1)
  else
  if (h1 84 (14 : Int).toNat) = 9999 then
    some ((-1), h1)
  else
  bnd (hw h1 83 51 x1) fun h3 =>
  bd (F_X12_sleptBy N h3) fun y5 h4 =>
  bnd (hw h4 83 51 0) fun h6 =>
  some (y5, h6)
set_option maxRecDepth 100000 in
set_option maxHeartbeats 4000000 in
theorem R_X12_strike (N : Nat) (x1 : Int) (h : Hp) (res : Int × Hp) (H : F_X12_strike N x1 h = some res) : Runs M_X12_strike 8 [.inr 84, .inl x1] h (Qi res) := by
  refine Runs.of rfl (Nat.le_of_ble_eq_true rfl) ?_
  show Go M_X12_strike 8 0 [some (.inr 84), some (.inl x1), none] [] h (Qi res)
  unfold F_X12_strike at H
  refine g_iload_n (T_X12_strike 0 _ _ _ rfl) rfl ?_
  refine g_iconst (T_X12_strike 1 _ _ _ rfl) ⟨by decide, by decide⟩ ?_
  refine g_sipush (T_X12_strike 2 _ _ _ rfl) (by decide) ?_
  obtain ⟨y2, h1, hq, H⟩ := bd_some H
  refine g_callSi (M' := M_X12_in) (av := [.inl x1, .inl 0, .inl 600]) (st := []) (T_X12_strike 3 _ _ _ rfl) ml_X12_155 cb_X12_in rfl (Nat.le_of_ble_eq_true rfl) (by omega) (R_X12_in N _ _ _ _ _ hq) ?_
  refine g_if_eq (tgt := 24) (T_X12_strike 4 _ _ _ rfl) (by decide) (fun cc => ?_) (fun cc => ?_)
  · replace H := ite_p cc H
    refine g_iconst (T_X12_strike 11 _ _ _ rfl) ⟨by decide, by decide⟩ ?_
    exact g_iret (T_X12_strike 12 _ _ _ rfl) rfl (qi_of H)
  · replace H := ite_n cc H
    refine g_aload_n (T_X12_strike 5 _ _ _ rfl) rfl ?_
    refine g_getR (c := 83) (r := 85) (T_X12_strike 6 _ _ _ rfl) fl_X12_7 rfl (nR rfl) rfl (by decide) ?_
    refine g_bipush (T_X12_strike 7 _ _ _ rfl) (by decide) ?_
    refine g_iald (c := 84) (T_X12_strike 8 _ _ _ rfl) rfl (by decide) ?_
    refine g_sipush (T_X12_strike 9 _ _ _ rfl) (by decide) ?_
    refine g_icmp_ne (tgt := 26) (T_X12_strike 10 _ _ _ rfl) (by decide) (fun cc => ?_) (fun cc => ?_)
    · replace H := ite_n cc H
      refine g_aload_n (T_X12_strike 13 _ _ _ rfl) rfl ?_
      refine g_iload_n (T_X12_strike 14 _ _ _ rfl) rfl ?_
      refine g_put (c := 83) (T_X12_strike 15 _ _ _ rfl) fl_X12_320 rfl (Or.inl rfl) ?_
      refine g_bndH H fun h3 H => ?_
      refine g_aload_n (T_X12_strike 16 _ _ _ rfl) rfl ?_
      obtain ⟨y5, h4, hq, H⟩ := bd_some H
      refine g_callVi (M' := M_X12_sleptBy) (c := 83) (av := []) (st := []) (T_X12_strike 17 _ _ _ rfl) ml_X12_342 cb_X12_sleptBy rfl rfl (Nat.le_of_ble_eq_true rfl) (by omega) (R_X12_sleptBy N _ _ hq) ?_
      refine g_istore_n (T_X12_strike 18 _ _ _ rfl) (by decide) ?_
      refine g_aload_n (T_X12_strike 19 _ _ _ rfl) rfl ?_
      refine g_iconst (T_X12_strike 20 _ _ _ rfl) ⟨by decide, by decide⟩ ?_
      refine g_put (c := 83) (T_X12_strike 21 _ _ _ rfl) fl_X12_320 rfl (Or.inl rfl) ?_
      refine g_bndH H fun h6 H => ?_
      refine g_iload_n (T_X12_strike 22 _ _ _ rfl) rfl ?_
      exact g_iret (T_X12_strike 23 _ _ _ rfl) rfl (qi_of H)
    · replace H := ite_p cc H
      refine g_iconst (T_X12_strike 11 _ _ _ rfl) ⟨by decide, by decide⟩ ?_
      exact g_iret (T_X12_strike 12 _ _ _ rfl) rfl (qi_of H)
def L_X12_sleepsAll_2 (N : Nat) : Nat → Int → Int → Hp → Option (Int × Hp)
  | 0, _, _, _ => none
  | n + 1, x1, x2, h =>
    if 10 ≤ x2 then
      some (1, h)
    else
    grd (0 ≤ (w32 (0 + x1)) ∧ (w32 (0 + x1)) < 17) <|
    grd (0 ≤ (w32 (0 + x1)) ∧ (w32 (0 + x1)) < 17) <|
    bd (F_X12_byStreet N 119 x1 x2 h) fun y2 h1 =>
    bd (F_X12_min N (h 84 (w32 (0 + x1)).toNat) y2 h1) fun y4 h3 =>
    grd (0 ≤ (w32 (0 + x1)) ∧ (w32 (0 + x1)) < 17) <|
    bnd (hw h3 84 (w32 (0 + x1)).toNat (w32 ((h 84 (w32 (0 + x1)).toNat) - y4))) fun h5 =>
    grd (0 ≤ (w32 (0 + x1)) ∧ (w32 (0 + x1)) < 17) <|
    grd (0 ≤ (w32 (0 + x1)) ∧ (w32 (0 + x1)) < 17) <|
    bd (F_X12_byStreet N 99 x1 x2 h5) fun y7 h6 =>
    bd (F_X12_min N (h5 84 (w32 (0 + x1)).toNat) y7 h6) fun y9 h8 =>
    grd (0 ≤ (w32 (0 + x1)) ∧ (w32 (0 + x1)) < 17) <|
    bnd (hw h8 84 (w32 (0 + x1)).toNat (w32 ((h5 84 (w32 (0 + x1)).toNat) - y9))) fun h10 =>
    grd (0 ≤ (w32 (0 + x1)) ∧ (w32 (0 + x1)) < 17) <|
    if (h10 84 (w32 (0 + x1)).toNat) = 0 then
      some (0, h10)
    else
    grd (0 ≤ (w32 (0 + x1)) ∧ (w32 (0 + x1)) < 17) <|
    bd (F_X12_byStreet N 115 x1 x2 h10) fun y12 h11 =>
    if y12 ≤ (h10 84 (w32 (0 + x1)).toNat) then
      bnd (w32 (x2 + 1)) fun y13 =>
      (L_X12_sleepsAll_2 N n) x1 y13 h11
    else
    some (0, h11)
set_option maxRecDepth 100000 in
set_option maxHeartbeats 4000000 in
theorem R_L_X12_sleepsAll_2 (N : Nat) : ∀ (n : Nat) (x1 : Int) (x2 : Int) (h : Hp) (res : Int × Hp), L_X12_sleepsAll_2 N n x1 x2 h = some res → Go M_X12_sleepsAll 5 2 [some (.inr 84), some (.inl x1), some (.inl x2)] [] h (Qi res)
  | 0, _, _, _, _, H => by cases H
  | n + 1, x1, x2, h, res, H => by
    have ih := R_L_X12_sleepsAll_2 N n
    simp only [L_X12_sleepsAll_2] at H
    refine g_iload_n (T_X12_sleepsAll 2 _ _ _ rfl) rfl ?_
    refine g_bipush (T_X12_sleepsAll 3 _ _ _ rfl) (by decide) ?_
    refine g_icmp_ge (tgt := 118) (T_X12_sleepsAll 4 _ _ _ rfl) (by decide) (fun cc => ?_) (fun cc => ?_)
    · replace H := ite_p cc H
      refine g_iconst (T_X12_sleepsAll 78 _ _ _ rfl) ⟨by decide, by decide⟩ ?_
      exact g_zret (T_X12_sleepsAll 79 _ _ _ rfl) rfl (by decide) (qi_of H)
    · replace H := ite_n cc H
      refine g_aload_n (T_X12_sleepsAll 5 _ _ _ rfl) rfl ?_
      refine g_getR (c := 83) (r := 85) (T_X12_sleepsAll 6 _ _ _ rfl) fl_X12_7 rfl (nR rfl) rfl (by decide) ?_
      refine g_iconst (T_X12_sleepsAll 7 _ _ _ rfl) ⟨by decide, by decide⟩ ?_
      refine g_iload_n (T_X12_sleepsAll 8 _ _ _ rfl) rfl ?_
      refine g_iadd (T_X12_sleepsAll 9 _ _ _ rfl) ?_
      refine g_aload_n (T_X12_sleepsAll 10 _ _ _ rfl) rfl ?_
      refine g_getR (c := 83) (r := 85) (T_X12_sleepsAll 11 _ _ _ rfl) fl_X12_7 rfl (nR rfl) rfl (by decide) ?_
      refine g_iconst (T_X12_sleepsAll 12 _ _ _ rfl) ⟨by decide, by decide⟩ ?_
      refine g_iload_n (T_X12_sleepsAll 13 _ _ _ rfl) rfl ?_
      refine g_iadd (T_X12_sleepsAll 14 _ _ _ rfl) ?_
      obtain ⟨hg, H⟩ := grd_some H
      refine g_iald (c := 84) (T_X12_sleepsAll 15 _ _ _ rfl) rfl hg ?_
      refine g_aload_n (T_X12_sleepsAll 16 _ _ _ rfl) rfl ?_
      refine g_getR (c := 83) (r := 85) (T_X12_sleepsAll 17 _ _ _ rfl) fl_X12_7 rfl (nR rfl) rfl (by decide) ?_
      refine g_iconst (T_X12_sleepsAll 18 _ _ _ rfl) ⟨by decide, by decide⟩ ?_
      refine g_iload_n (T_X12_sleepsAll 19 _ _ _ rfl) rfl ?_
      refine g_iadd (T_X12_sleepsAll 20 _ _ _ rfl) ?_
      obtain ⟨hg, H⟩ := grd_some H
      refine g_iald (c := 84) (T_X12_sleepsAll 21 _ _ _ rfl) rfl hg ?_
      refine g_aload_n (T_X12_sleepsAll 22 _ _ _ rfl) rfl ?_
      refine g_bipush (T_X12_sleepsAll 23 _ _ _ rfl) (by decide) ?_
      refine g_iload_n (T_X12_sleepsAll 24 _ _ _ rfl) rfl ?_
      refine g_iload_n (T_X12_sleepsAll 25 _ _ _ rfl) rfl ?_
      obtain ⟨y2, h1, hq, H⟩ := bd_some H
      refine g_callVi (M' := M_X12_byStreet) (c := 83) (av := [.inl 119, .inl x1, .inl x2]) (st := [.inl (h 84 (w32 (0 + x1)).toNat), .inl (h 84 (w32 (0 + x1)).toNat), .inl (w32 (0 + x1)), .inr 85]) (T_X12_sleepsAll 26 _ _ _ rfl) ml_X12_308 cb_X12_byStreet rfl rfl (Nat.le_of_ble_eq_true rfl) (by omega) (R_X12_byStreet N _ _ _ _ _ hq) ?_
      obtain ⟨y4, h3, hq, H⟩ := bd_some H
      refine g_callSi (M' := M_X12_min) (av := [.inl (h 84 (w32 (0 + x1)).toNat), .inl y2]) (st := [.inl (h 84 (w32 (0 + x1)).toNat), .inl (w32 (0 + x1)), .inr 85]) (T_X12_sleepsAll 27 _ _ _ rfl) ml_X12_151 cb_X12_min rfl (Nat.le_of_ble_eq_true rfl) (by omega) (R_X12_min N _ _ _ _ hq) ?_
      refine g_isub (T_X12_sleepsAll 28 _ _ _ rfl) ?_
      obtain ⟨hg, H⟩ := grd_some H
      refine g_iast (c := 84) (T_X12_sleepsAll 29 _ _ _ rfl) rfl hg ?_
      refine g_bndH H fun h5 H => ?_
      refine g_aload_n (T_X12_sleepsAll 30 _ _ _ rfl) rfl ?_
      refine g_getR (c := 83) (r := 85) (T_X12_sleepsAll 31 _ _ _ rfl) fl_X12_7 rfl (nR rfl) rfl (by decide) ?_
      refine g_iconst (T_X12_sleepsAll 32 _ _ _ rfl) ⟨by decide, by decide⟩ ?_
      refine g_iload_n (T_X12_sleepsAll 33 _ _ _ rfl) rfl ?_
      refine g_iadd (T_X12_sleepsAll 34 _ _ _ rfl) ?_
      refine g_aload_n (T_X12_sleepsAll 35 _ _ _ rfl) rfl ?_
      refine g_getR (c := 83) (r := 85) (T_X12_sleepsAll 36 _ _ _ rfl) fl_X12_7 rfl (nR rfl) rfl (by decide) ?_
      refine g_iconst (T_X12_sleepsAll 37 _ _ _ rfl) ⟨by decide, by decide⟩ ?_
      refine g_iload_n (T_X12_sleepsAll 38 _ _ _ rfl) rfl ?_
      refine g_iadd (T_X12_sleepsAll 39 _ _ _ rfl) ?_
      obtain ⟨hg, H⟩ := grd_some H
      refine g_iald (c := 84) (T_X12_sleepsAll 40 _ _ _ rfl) rfl hg ?_
      refine g_aload_n (T_X12_sleepsAll 41 _ _ _ rfl) rfl ?_
      refine g_getR (c := 83) (r := 85) (T_X12_sleepsAll 42 _ _ _ rfl) fl_X12_7 rfl (nR rfl) rfl (by decide) ?_
      refine g_iconst (T_X12_sleepsAll 43 _ _ _ rfl) ⟨by decide, by decide⟩ ?_
      refine g_iload_n (T_X12_sleepsAll 44 _ _ _ rfl) rfl ?_
      refine g_iadd (T_X12_sleepsAll 45 _ _ _ rfl) ?_
      obtain ⟨hg, H⟩ := grd_some H
      refine g_iald (c := 84) (T_X12_sleepsAll 46 _ _ _ rfl) rfl hg ?_
      refine g_aload_n (T_X12_sleepsAll 47 _ _ _ rfl) rfl ?_
      refine g_bipush (T_X12_sleepsAll 48 _ _ _ rfl) (by decide) ?_
      refine g_iload_n (T_X12_sleepsAll 49 _ _ _ rfl) rfl ?_
      refine g_iload_n (T_X12_sleepsAll 50 _ _ _ rfl) rfl ?_
      obtain ⟨y7, h6, hq, H⟩ := bd_some H
      refine g_callVi (M' := M_X12_byStreet) (c := 83) (av := [.inl 99, .inl x1, .inl x2]) (st := [.inl (h5 84 (w32 (0 + x1)).toNat), .inl (h5 84 (w32 (0 + x1)).toNat), .inl (w32 (0 + x1)), .inr 85]) (T_X12_sleepsAll 51 _ _ _ rfl) ml_X12_308 cb_X12_byStreet rfl rfl (Nat.le_of_ble_eq_true rfl) (by omega) (R_X12_byStreet N _ _ _ _ _ hq) ?_
      obtain ⟨y9, h8, hq, H⟩ := bd_some H
      refine g_callSi (M' := M_X12_min) (av := [.inl (h5 84 (w32 (0 + x1)).toNat), .inl y7]) (st := [.inl (h5 84 (w32 (0 + x1)).toNat), .inl (w32 (0 + x1)), .inr 85]) (T_X12_sleepsAll 52 _ _ _ rfl) ml_X12_151 cb_X12_min rfl (Nat.le_of_ble_eq_true rfl) (by omega) (R_X12_min N _ _ _ _ hq) ?_
      refine g_isub (T_X12_sleepsAll 53 _ _ _ rfl) ?_
      obtain ⟨hg, H⟩ := grd_some H
      refine g_iast (c := 84) (T_X12_sleepsAll 54 _ _ _ rfl) rfl hg ?_
      refine g_bndH H fun h10 H => ?_
      refine g_aload_n (T_X12_sleepsAll 55 _ _ _ rfl) rfl ?_
      refine g_getR (c := 83) (r := 85) (T_X12_sleepsAll 56 _ _ _ rfl) fl_X12_7 rfl (nR rfl) rfl (by decide) ?_
      refine g_iconst (T_X12_sleepsAll 57 _ _ _ rfl) ⟨by decide, by decide⟩ ?_
      refine g_iload_n (T_X12_sleepsAll 58 _ _ _ rfl) rfl ?_
      refine g_iadd (T_X12_sleepsAll 59 _ _ _ rfl) ?_
      obtain ⟨hg, H⟩ := grd_some H
      refine g_iald (c := 84) (T_X12_sleepsAll 60 _ _ _ rfl) rfl hg ?_
      refine g_if_eq (tgt := 110) (T_X12_sleepsAll 61 _ _ _ rfl) (by decide) (fun cc => ?_) (fun cc => ?_)
      · replace H := ite_p cc H
        refine g_iconst (T_X12_sleepsAll 74 _ _ _ rfl) ⟨by decide, by decide⟩ ?_
        exact g_zret (T_X12_sleepsAll 75 _ _ _ rfl) rfl (by decide) (qi_of H)
      · replace H := ite_n cc H
        refine g_aload_n (T_X12_sleepsAll 62 _ _ _ rfl) rfl ?_
        refine g_getR (c := 83) (r := 85) (T_X12_sleepsAll 63 _ _ _ rfl) fl_X12_7 rfl (nR rfl) rfl (by decide) ?_
        refine g_iconst (T_X12_sleepsAll 64 _ _ _ rfl) ⟨by decide, by decide⟩ ?_
        refine g_iload_n (T_X12_sleepsAll 65 _ _ _ rfl) rfl ?_
        refine g_iadd (T_X12_sleepsAll 66 _ _ _ rfl) ?_
        obtain ⟨hg, H⟩ := grd_some H
        refine g_iald (c := 84) (T_X12_sleepsAll 67 _ _ _ rfl) rfl hg ?_
        refine g_aload_n (T_X12_sleepsAll 68 _ _ _ rfl) rfl ?_
        refine g_bipush (T_X12_sleepsAll 69 _ _ _ rfl) (by decide) ?_
        refine g_iload_n (T_X12_sleepsAll 70 _ _ _ rfl) rfl ?_
        refine g_iload_n (T_X12_sleepsAll 71 _ _ _ rfl) rfl ?_
        obtain ⟨y12, h11, hq, H⟩ := bd_some H
        refine g_callVi (M' := M_X12_byStreet) (c := 83) (av := [.inl 115, .inl x1, .inl x2]) (st := [.inl (h10 84 (w32 (0 + x1)).toNat)]) (T_X12_sleepsAll 72 _ _ _ rfl) ml_X12_308 cb_X12_byStreet rfl rfl (Nat.le_of_ble_eq_true rfl) (by omega) (R_X12_byStreet N _ _ _ _ _ hq) ?_
        refine g_icmp_ge (tgt := 112) (T_X12_sleepsAll 73 _ _ _ rfl) (by decide) (fun cc => ?_) (fun cc => ?_)
        · replace H := ite_p cc H
          refine g_iincB (T_X12_sleepsAll 76 _ _ _ rfl) rfl (by decide) H fun y13 H => ?_
          refine g_goto (tgt := 2) (T_X12_sleepsAll 77 _ _ _ rfl) (by decide) ?_
          refine g_weak [true, true, true] ?_
          exact ih _ _ _ _ H
        · replace H := ite_n cc H
          refine g_iconst (T_X12_sleepsAll 74 _ _ _ rfl) ⟨by decide, by decide⟩ ?_
          exact g_zret (T_X12_sleepsAll 75 _ _ _ rfl) rfl (by decide) (qi_of H)
def F_X12_sleepsAll (N : Nat) (x1 : Int) (h : Hp) : Option (Int × Hp) :=
  L_X12_sleepsAll_2 N  N x1 0 h
set_option maxRecDepth 100000 in
set_option maxHeartbeats 4000000 in
theorem R_X12_sleepsAll (N : Nat) (x1 : Int) (h : Hp) (res : Int × Hp) (H : F_X12_sleepsAll N x1 h = some res) : Runs M_X12_sleepsAll 5 [.inr 84, .inl x1] h (Qi res) := by
  refine Runs.of rfl (Nat.le_of_ble_eq_true rfl) ?_
  show Go M_X12_sleepsAll 5 0 [some (.inr 84), some (.inl x1), none] [] h (Qi res)
  unfold F_X12_sleepsAll at H
  refine g_iconst (T_X12_sleepsAll 0 _ _ _ rfl) ⟨by decide, by decide⟩ ?_
  refine g_istore_n (T_X12_sleepsAll 1 _ _ _ rfl) (by decide) ?_
  refine g_weak [true, true, true] ?_
  refine R_L_X12_sleepsAll_2 N   _ _ _ _ _ H
def J_X12_enough_63 (N : Nat) (x1 : Int) (x2 : Int) (x3 : Int) (x4 : Int) (h : Hp) : Option (Int × Hp) :=
  grd (0 ≤ (w32 (0 + x1)) ∧ (w32 (0 + x1)) < 17) <|
  bnd (hw h 84 (w32 (0 + x1)).toNat x2) fun h1 =>
  if x4 = 0 then
    some ((-2), h1)
  else
  some ((w32 (x3 - 1)), h1)
set_option maxRecDepth 100000 in
set_option maxHeartbeats 4000000 in
theorem R_J_X12_enough_63 (N : Nat) (x1 : Int) (x2 : Int) (x3 : Int) (x4 : Int) (h : Hp) (res : Int × Hp) (H : J_X12_enough_63 N x1 x2 x3 x4 h = some res) : Go M_X12_enough 6 63 [some (.inr 84), some (.inl x1), some (.inl x2), some (.inl x3), some (.inl x4)] [] h (Qi res) := by
  unfold J_X12_enough_63 at H
  refine g_aload_n (T_X12_enough 42 _ _ _ rfl) rfl ?_
  refine g_getR (c := 83) (r := 85) (T_X12_enough 43 _ _ _ rfl) fl_X12_7 rfl (nR rfl) rfl (by decide) ?_
  refine g_iconst (T_X12_enough 44 _ _ _ rfl) ⟨by decide, by decide⟩ ?_
  refine g_iload_n (T_X12_enough 45 _ _ _ rfl) rfl ?_
  refine g_iadd (T_X12_enough 46 _ _ _ rfl) ?_
  refine g_iload_n (T_X12_enough 47 _ _ _ rfl) rfl ?_
  obtain ⟨hg, H⟩ := grd_some H
  refine g_iast (c := 84) (T_X12_enough 48 _ _ _ rfl) rfl hg ?_
  refine g_bndH H fun h1 H => ?_
  refine g_iload (T_X12_enough 49 _ _ _ rfl) rfl ?_
  refine g_if_eq (tgt := 83) (T_X12_enough 50 _ _ _ rfl) (by decide) (fun cc => ?_) (fun cc => ?_)
  · replace H := ite_p cc H
    refine g_bipush (T_X12_enough 55 _ _ _ rfl) (by decide) ?_
    exact g_iret (T_X12_enough 56 _ _ _ rfl) rfl (qi_of H)
  · replace H := ite_n cc H
    refine g_iload_n (T_X12_enough 51 _ _ _ rfl) rfl ?_
    refine g_iconst (T_X12_enough 52 _ _ _ rfl) ⟨by decide, by decide⟩ ?_
    refine g_isub (T_X12_enough 53 _ _ _ rfl) ?_
    refine g_goto (tgt := 85) (T_X12_enough 54 _ _ _ rfl) (by decide) ?_
    exact g_iret (T_X12_enough 56 _ _ _ rfl) rfl (qi_of H)
def L_X12_enough_24 (N : Nat) : Nat → Int → Int → Int → Int → Hp → Option (Int × Hp)
  | 0, _, _, _, _, _ => none
  | n + 1, x1, x2, x3, x4, h =>
    if x4 = 0 then
      if 999 < (w32 (x2 + x3)) then
        J_X12_enough_63 N  x1 x2 x3 x4 h
      else
      grd (0 ≤ (w32 (0 + x1)) ∧ (w32 (0 + x1)) < 17) <|
      bnd (hw h 84 (w32 (0 + x1)).toNat (w32 (x2 + x3))) fun h1 =>
      bd (F_X12_sleepsAll N x1 h1) fun y3 h2 =>
      bnd ((w32 (x3 + 1))) fun y4 =>
      (L_X12_enough_24 N n) x1 x2 y4 y3 h2
    else
    J_X12_enough_63 N  x1 x2 x3 x4 h
set_option maxRecDepth 100000 in
set_option maxHeartbeats 4000000 in
theorem R_L_X12_enough_24 (N : Nat) : ∀ (n : Nat) (x1 : Int) (x2 : Int) (x3 : Int) (x4 : Int) (h : Hp) (res : Int × Hp), L_X12_enough_24 N n x1 x2 x3 x4 h = some res → Go M_X12_enough 6 24 [some (.inr 84), some (.inl x1), some (.inl x2), some (.inl x3), some (.inl x4)] [] h (Qi res)
  | 0, _, _, _, _, _, _, H => by cases H
  | n + 1, x1, x2, x3, x4, h, res, H => by
    have ih := R_L_X12_enough_24 N n
    simp only [L_X12_enough_24] at H
    refine g_iload (T_X12_enough 17 _ _ _ rfl) rfl ?_
    refine g_if_ne (tgt := 63) (T_X12_enough 18 _ _ _ rfl) (by decide) (fun cc => ?_) (fun cc => ?_)
    · replace H := ite_n cc H
      refine g_weak [true, true, true, true, true] ?_
      exact R_J_X12_enough_63 N   _ _ _ _ _ _ H
    · replace H := ite_p cc H
      refine g_iload_n (T_X12_enough 19 _ _ _ rfl) rfl ?_
      refine g_iload_n (T_X12_enough 20 _ _ _ rfl) rfl ?_
      refine g_iadd (T_X12_enough 21 _ _ _ rfl) ?_
      refine g_sipush (T_X12_enough 22 _ _ _ rfl) (by decide) ?_
      refine g_icmp_gt (tgt := 63) (T_X12_enough 23 _ _ _ rfl) (by decide) (fun cc => ?_) (fun cc => ?_)
      · replace H := ite_p cc H
        refine g_weak [true, true, true, true, true] ?_
        exact R_J_X12_enough_63 N   _ _ _ _ _ _ H
      · replace H := ite_n cc H
        refine g_aload_n (T_X12_enough 24 _ _ _ rfl) rfl ?_
        refine g_getR (c := 83) (r := 85) (T_X12_enough 25 _ _ _ rfl) fl_X12_7 rfl (nR rfl) rfl (by decide) ?_
        refine g_iconst (T_X12_enough 26 _ _ _ rfl) ⟨by decide, by decide⟩ ?_
        refine g_iload_n (T_X12_enough 27 _ _ _ rfl) rfl ?_
        refine g_iadd (T_X12_enough 28 _ _ _ rfl) ?_
        refine g_iload_n (T_X12_enough 29 _ _ _ rfl) rfl ?_
        refine g_iload_n (T_X12_enough 30 _ _ _ rfl) rfl ?_
        refine g_iadd (T_X12_enough 31 _ _ _ rfl) ?_
        obtain ⟨hg, H⟩ := grd_some H
        refine g_iast (c := 84) (T_X12_enough 32 _ _ _ rfl) rfl hg ?_
        refine g_bndH H fun h1 H => ?_
        refine g_aload_n (T_X12_enough 33 _ _ _ rfl) rfl ?_
        refine g_iload_n (T_X12_enough 34 _ _ _ rfl) rfl ?_
        obtain ⟨y3, h2, hq, H⟩ := bd_some H
        refine g_callVi (M' := M_X12_sleepsAll) (c := 83) (av := [.inl x1]) (st := []) (T_X12_enough 35 _ _ _ rfl) ml_X12_345 cb_X12_sleepsAll rfl rfl (Nat.le_of_ble_eq_true rfl) (by omega) (R_X12_sleepsAll N _ _ _ hq) ?_
        refine g_istore (T_X12_enough 36 _ _ _ rfl) (by decide) ?_
        refine g_iload_n (T_X12_enough 37 _ _ _ rfl) rfl ?_
        refine g_iconst (T_X12_enough 38 _ _ _ rfl) ⟨by decide, by decide⟩ ?_
        refine g_iadd (T_X12_enough 39 _ _ _ rfl) ?_
        refine g_bndI H fun y4 H => ?_
        refine g_istore_n (T_X12_enough 40 _ _ _ rfl) (by decide) ?_
        refine g_goto (tgt := 24) (T_X12_enough 41 _ _ _ rfl) (by decide) ?_
        refine g_weak [true, true, true, true, true] ?_
        exact ih _ _ _ _ _ _ H
def F_X12_enough (N : Nat) (x1 : Int) (h : Hp) : Option (Int × Hp) :=
  bd (F_X12_isStreet N x1 h) fun y2 h1 =>
  if y2 = 0 then
    some ((-1), h1)
  else
  grd (0 ≤ (w32 (0 + x1)) ∧ (w32 (0 + x1)) < 17) <|
  bnd ((h1 84 (w32 (0 + x1)).toNat)) fun y3 =>
  L_X12_enough_24 N  N x1 y3 0 0 h1
set_option maxRecDepth 100000 in
set_option maxHeartbeats 4000000 in
theorem R_X12_enough (N : Nat) (x1 : Int) (h : Hp) (res : Int × Hp) (H : F_X12_enough N x1 h = some res) : Runs M_X12_enough 6 [.inr 84, .inl x1] h (Qi res) := by
  refine Runs.of rfl (Nat.le_of_ble_eq_true rfl) ?_
  show Go M_X12_enough 6 0 [some (.inr 84), some (.inl x1), none, none, none] [] h (Qi res)
  unfold F_X12_enough at H
  refine g_aload_n (T_X12_enough 0 _ _ _ rfl) rfl ?_
  refine g_iload_n (T_X12_enough 1 _ _ _ rfl) rfl ?_
  obtain ⟨y2, h1, hq, H⟩ := bd_some H
  refine g_callVi (M' := M_X12_isStreet) (c := 83) (av := [.inl x1]) (st := []) (T_X12_enough 2 _ _ _ rfl) ml_X12_146 cb_X12_isStreet rfl rfl (Nat.le_of_ble_eq_true rfl) (by omega) (R_X12_isStreet N _ _ _ hq) ?_
  refine g_if_ne (tgt := 10) (T_X12_enough 3 _ _ _ rfl) (by decide) (fun cc => ?_) (fun cc => ?_)
  · replace H := ite_n cc H
    refine g_aload_n (T_X12_enough 6 _ _ _ rfl) rfl ?_
    refine g_getR (c := 83) (r := 85) (T_X12_enough 7 _ _ _ rfl) fl_X12_7 rfl (nR rfl) rfl (by decide) ?_
    refine g_iconst (T_X12_enough 8 _ _ _ rfl) ⟨by decide, by decide⟩ ?_
    refine g_iload_n (T_X12_enough 9 _ _ _ rfl) rfl ?_
    refine g_iadd (T_X12_enough 10 _ _ _ rfl) ?_
    obtain ⟨hg, H⟩ := grd_some H
    refine g_iald (c := 84) (T_X12_enough 11 _ _ _ rfl) rfl hg ?_
    refine g_bndI H fun y3 H => ?_
    refine g_istore_n (T_X12_enough 12 _ _ _ rfl) (by decide) ?_
    refine g_iconst (T_X12_enough 13 _ _ _ rfl) ⟨by decide, by decide⟩ ?_
    refine g_istore_n (T_X12_enough 14 _ _ _ rfl) (by decide) ?_
    refine g_iconst (T_X12_enough 15 _ _ _ rfl) ⟨by decide, by decide⟩ ?_
    refine g_istore (T_X12_enough 16 _ _ _ rfl) (by decide) ?_
    refine g_weak [true, true, true, true, true] ?_
    refine R_L_X12_enough_24 N   _ _ _ _ _ _ _ H
  · replace H := ite_p cc H
    refine g_iconst (T_X12_enough 4 _ _ _ rfl) ⟨by decide, by decide⟩ ?_
    exact g_iret (T_X12_enough 5 _ _ _ rfl) rfl (qi_of H)
