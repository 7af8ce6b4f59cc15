/-! by program: the methods as functions, and the walks that show it -/
def J_X12_thieves_107 (N : Nat) (k74 : Int → Int → Int → Int → Int → Int → Int → Int → Int → Hp → Option (Int × Hp)) (x1 : Int) (x2 : Int) (x3 : Int) (x4 : Int) (x5 : Int) (x6 : Int) (x7 : Int) (x9 : Int) (s0 : Int) (s1 : Int) (h : Hp) : Option (Int × Hp) :=
  bnd ((w32 (s0 + s1))) fun y1 =>
  bnd (w32 (x9 + 1)) fun y2 =>
  k74 x1 x2 x3 x4 x5 x6 x7 y1 y2 h
set_option maxRecDepth 100000 in
set_option maxHeartbeats 4000000 in
theorem R_J_X12_thieves_107 (N : Nat) (k74 : Int → Int → Int → Int → Int → Int → Int → Int → Int → Hp → Option (Int × Hp)) (hk74 : ∀ (x1 : Int) (x2 : Int) (x3 : Int) (x4 : Int) (x5 : Int) (x6 : Int) (x7 : Int) (x8 : Int) (x9 : Int) (h : Hp) (res : Int × Hp), k74 x1 x2 x3 x4 x5 x6 x7 x8 x9 h = some res → Go M_X12_thieves 2 74 [some (.inr 84), some (.inl x1), some (.inl x2), some (.inl x3), some (.inl x4), some (.inl x5), some (.inl x6), some (.inl x7), some (.inl x8), some (.inl x9)] [] h (Qi res)) (x1 : Int) (x2 : Int) (x3 : Int) (x4 : Int) (x5 : Int) (x6 : Int) (x7 : Int) (x9 : Int) (s0 : Int) (s1 : Int) (h : Hp) (res : Int × Hp) (H : J_X12_thieves_107 N k74 x1 x2 x3 x4 x5 x6 x7 x9 s0 s1 h = some res) : Go M_X12_thieves 2 107 [some (.inr 84), some (.inl x1), some (.inl x2), some (.inl x3), some (.inl x4), some (.inl x5), some (.inl x6), some (.inl x7), none, some (.inl x9)] [.inl s1, .inl s0] h (Qi res) := by
  unfold J_X12_thieves_107 at H
  refine g_iadd (T_X12_thieves 57 _ _ _ rfl) ?_
  refine g_bndI H fun y1 H => ?_
  refine g_istore (T_X12_thieves 58 _ _ _ rfl) (by decide) ?_
  refine g_iincB (T_X12_thieves 59 _ _ _ rfl) rfl (by decide) H fun y2 H => ?_
  refine g_goto (tgt := 74) (T_X12_thieves 60 _ _ _ rfl) (by decide) ?_
  refine g_weak [true, true, true, true, true, true, true, true, true, true] ?_
  exact hk74 _ _ _ _ _ _ _ _ _ _ _ H
def L_X12_thieves_74 (N : Nat) (k116 : Int → Int → Int → Int → Int → Int → Int → Int → Hp → Option (Int × Hp)) : Nat → Int → Int → Int → Int → Int → Int → Int → Int → Int → Hp → Option (Int × Hp)
  | 0, _, _, _, _, _, _, _, _, _, _ => none
  | n + 1, x1, x2, x3, x4, x5, x6, x7, x8, x9, h =>
    if x1 ≤ x9 then
      k116 x1 x2 x3 x4 x5 x6 x7 x8 h
    else
    bd (F_X12_has N x7 x9 h) fun y2 h1 =>
    if y2 = 0 then
      J_X12_thieves_107 N (L_X12_thieves_74 N k116 n) x1 x2 x3 x4 x5 x6 x7 x9 x8 0 h1
    else
    grd (0 ≤ x9 ∧ x9 < 260) <|
    J_X12_thieves_107 N (L_X12_thieves_74 N k116 n) x1 x2 x3 x4 x5 x6 x7 x9 x8 (iand (h1 96 x9.toNat) 255) h1
set_option maxRecDepth 100000 in
set_option maxHeartbeats 4000000 in
theorem R_L_X12_thieves_74 (N : Nat) (k116 : Int → Int → Int → Int → Int → Int → Int → Int → Hp → Option (Int × Hp)) (hk116 : ∀ (x1 : Int) (x2 : Int) (x3 : Int) (x4 : Int) (x5 : Int) (x6 : Int) (x7 : Int) (x8 : Int) (h : Hp) (res : Int × Hp), k116 x1 x2 x3 x4 x5 x6 x7 x8 h = some res → Go M_X12_thieves 2 116 [some (.inr 84), some (.inl x1), some (.inl x2), some (.inl x3), some (.inl x4), some (.inl x5), some (.inl x6), some (.inl x7), some (.inl x8), none] [] h (Qi res)) : ∀ (n : Nat) (x1 : Int) (x2 : Int) (x3 : Int) (x4 : Int) (x5 : Int) (x6 : Int) (x7 : Int) (x8 : Int) (x9 : Int) (h : Hp) (res : Int × Hp), L_X12_thieves_74 N k116 n x1 x2 x3 x4 x5 x6 x7 x8 x9 h = some res → Go M_X12_thieves 2 74 [some (.inr 84), some (.inl x1), some (.inl x2), some (.inl x3), some (.inl x4), some (.inl x5), some (.inl x6), some (.inl x7), some (.inl x8), some (.inl x9)] [] h (Qi res)
  | 0, _, _, _, _, _, _, _, _, _, _, _, H => by cases H
  | n + 1, x1, x2, x3, x4, x5, x6, x7, x8, x9, h, res, H => by
    have ih := R_L_X12_thieves_74 N k116 hk116 n
    simp only [L_X12_thieves_74] at H
    refine g_iload (T_X12_thieves 41 _ _ _ rfl) rfl ?_
    refine g_iload_n (T_X12_thieves 42 _ _ _ rfl) rfl ?_
    refine g_icmp_ge (tgt := 116) (T_X12_thieves 43 _ _ _ rfl) (by decide) (fun cc => ?_) (fun cc => ?_)
    · replace H := ite_p cc H
      refine g_weak [true, true, true, true, true, true, true, true, true, false] ?_
      exact hk116 _ _ _ _ _ _ _ _ _ _ H
    · replace H := ite_n cc H
      refine g_iload (T_X12_thieves 44 _ _ _ rfl) rfl ?_
      refine g_iload (T_X12_thieves 45 _ _ _ rfl) rfl ?_
      refine g_iload (T_X12_thieves 46 _ _ _ rfl) rfl ?_
      obtain ⟨y2, h1, hq, H⟩ := bd_some H
      refine g_callSi (M' := M_X12_has) (av := [.inl x7, .inl x9]) (st := [.inl x8]) (T_X12_thieves 47 _ _ _ rfl) ml_X12_139 cb_X12_has rfl (Nat.le_of_ble_eq_true rfl) (by omega) (R_X12_has N _ _ _ _ hq) ?_
      refine g_if_eq (tgt := 106) (T_X12_thieves 48 _ _ _ rfl) (by decide) (fun cc => ?_) (fun cc => ?_)
      · replace H := ite_p cc H
        refine g_iconst (T_X12_thieves 56 _ _ _ rfl) ⟨by decide, by decide⟩ ?_
        refine g_weak [true, true, true, true, true, true, true, true, false, true] ?_
        exact R_J_X12_thieves_107 N (L_X12_thieves_74 N k116 n) ih _ _ _ _ _ _ _ _ _ _ _ _ H
      · replace H := ite_n cc H
        refine g_aload_n (T_X12_thieves 49 _ _ _ rfl) rfl ?_
        refine g_getR (c := 83) (r := 97) (T_X12_thieves 50 _ _ _ rfl) fl_X12_46 rfl (nR rfl) rfl (by decide) ?_
        refine g_iload (T_X12_thieves 51 _ _ _ rfl) rfl ?_
        obtain ⟨hg, H⟩ := grd_some H
        refine g_bald (c := 96) (T_X12_thieves 52 _ _ _ rfl) rfl hg ?_
        refine g_sipush (T_X12_thieves 53 _ _ _ rfl) (by decide) ?_
        refine g_iand (T_X12_thieves 54 _ _ _ rfl) ?_
        refine g_goto (tgt := 107) (T_X12_thieves 55 _ _ _ rfl) (by decide) ?_
        refine g_weak [true, true, true, true, true, true, true, true, false, true] ?_
        exact R_J_X12_thieves_107 N (L_X12_thieves_74 N k116 n) ih _ _ _ _ _ _ _ _ _ _ _ _ H
def J_X12_thieves_152 (N : Nat) (k60 : Int → Int → Int → Int → Int → Int → Int → Hp → Option (Int × Hp)) (x1 : Int) (x2 : Int) (x3 : Int) (x4 : Int) (x5 : Int) (x6 : Int) (x7 : Int) (h : Hp) : Option (Int × Hp) :=
  bnd (w32 (x7 + 1)) fun y1 =>
  k60 x1 x2 x3 x4 x5 x6 y1 h
set_option maxRecDepth 100000 in
set_option maxHeartbeats 4000000 in
theorem R_J_X12_thieves_152 (N : Nat) (k60 : Int → Int → Int → Int → Int → Int → Int → Hp → Option (Int × Hp)) (hk60 : ∀ (x1 : Int) (x2 : Int) (x3 : Int) (x4 : Int) (x5 : Int) (x6 : Int) (x7 : Int) (h : Hp) (res : Int × Hp), k60 x1 x2 x3 x4 x5 x6 x7 h = some res → Go M_X12_thieves 2 60 [some (.inr 84), some (.inl x1), some (.inl x2), some (.inl x3), some (.inl x4), some (.inl x5), some (.inl x6), some (.inl x7), none, none] [] h (Qi res)) (x1 : Int) (x2 : Int) (x3 : Int) (x4 : Int) (x5 : Int) (x6 : Int) (x7 : Int) (h : Hp) (res : Int × Hp) (H : J_X12_thieves_152 N k60 x1 x2 x3 x4 x5 x6 x7 h = some res) : Go M_X12_thieves 2 152 [some (.inr 84), some (.inl x1), some (.inl x2), some (.inl x3), some (.inl x4), some (.inl x5), some (.inl x6), some (.inl x7), none, none] [] h (Qi res) := by
  unfold J_X12_thieves_152 at H
  refine g_iincB (T_X12_thieves 79 _ _ _ rfl) rfl (by decide) H fun y1 H => ?_
  refine g_goto (tgt := 60) (T_X12_thieves 80 _ _ _ rfl) (by decide) ?_
  refine g_weak [true, true, true, true, true, true, true, true, false, false] ?_
  exact hk60 _ _ _ _ _ _ _ _ _ H
def J_X12_thieves_137 (N : Nat) (k60 : Int → Int → Int → Int → Int → Int → Int → Hp → Option (Int × Hp)) (x1 : Int) (x2 : Int) (x3 : Int) (x4 : Int) (x6 : Int) (x7 : Int) (s0 : Int) (h : Hp) : Option (Int × Hp) :=
  bnd ((w32 (x4 + 1))) fun y1 =>
  bnd ((iand x6 x7)) fun y2 =>
  J_X12_thieves_152 N k60 x1 x2 x3 y1 s0 y2 x7 h
set_option maxRecDepth 100000 in
set_option maxHeartbeats 4000000 in
theorem R_J_X12_thieves_137 (N : Nat) (k60 : Int → Int → Int → Int → Int → Int → Int → Hp → Option (Int × Hp)) (hk60 : ∀ (x1 : Int) (x2 : Int) (x3 : Int) (x4 : Int) (x5 : Int) (x6 : Int) (x7 : Int) (h : Hp) (res : Int × Hp), k60 x1 x2 x3 x4 x5 x6 x7 h = some res → Go M_X12_thieves 2 60 [some (.inr 84), some (.inl x1), some (.inl x2), some (.inl x3), some (.inl x4), some (.inl x5), some (.inl x6), some (.inl x7), none, none] [] h (Qi res)) (x1 : Int) (x2 : Int) (x3 : Int) (x4 : Int) (x6 : Int) (x7 : Int) (s0 : Int) (h : Hp) (res : Int × Hp) (H : J_X12_thieves_137 N k60 x1 x2 x3 x4 x6 x7 s0 h = some res) : Go M_X12_thieves 2 137 [some (.inr 84), some (.inl x1), some (.inl x2), some (.inl x3), some (.inl x4), none, some (.inl x6), some (.inl x7), none, none] [.inl s0] h (Qi res) := by
  unfold J_X12_thieves_137 at H
  refine g_istore (T_X12_thieves 70 _ _ _ rfl) (by decide) ?_
  refine g_iload (T_X12_thieves 71 _ _ _ rfl) rfl ?_
  refine g_iconst (T_X12_thieves 72 _ _ _ rfl) ⟨by decide, by decide⟩ ?_
  refine g_iadd (T_X12_thieves 73 _ _ _ rfl) ?_
  refine g_bndI H fun y1 H => ?_
  refine g_istore (T_X12_thieves 74 _ _ _ rfl) (by decide) ?_
  refine g_iload (T_X12_thieves 75 _ _ _ rfl) rfl ?_
  refine g_iload (T_X12_thieves 76 _ _ _ rfl) rfl ?_
  refine g_iand (T_X12_thieves 77 _ _ _ rfl) ?_
  refine g_bndI H fun y2 H => ?_
  refine g_istore (T_X12_thieves 78 _ _ _ rfl) (by decide) ?_
  refine g_weak [true, true, true, true, true, true, true, true, false, false] ?_
  exact R_J_X12_thieves_152 N k60 hk60 _ _ _ _ _ _ _ _ _ H
def L_X12_thieves_60 (N : Nat) : Nat → Int → Int → Int → Int → Int → Int → Int → Hp → Option (Int × Hp)
  | 0, _, _, _, _, _, _, _, _ => none
  | n + 1, x1, x2, x3, x4, x5, x6, x7, h =>
    if (ishl 1 x1) ≤ x7 then
      if x3 = 0 then
        some (x4, h)
      else
      if x4 = 0 then
        some (x5, h)
      else
      if x3 = 1 then
        some (x5, h)
      else
      some (x6, h)
    else
    L_X12_thieves_74 N (fun (v1 : Int) (v2 : Int) (v3 : Int) (v4 : Int) (v5 : Int) (v6 : Int) (v7 : Int) (v8 : Int) (h9 : Hp) =>
      if v8 = v2 then
        if v4 = 0 then
          J_X12_thieves_137 N (L_X12_thieves_60 N n) v1 v2 v3 v4 v6 v7 v7 h9
        else
        J_X12_thieves_137 N (L_X12_thieves_60 N n) v1 v2 v3 v4 v6 v7 v5 h9
      else
      J_X12_thieves_152 N (L_X12_thieves_60 N n) v1 v2 v3 v4 v5 v6 v7 h9) N x1 x2 x3 x4 x5 x6 x7 0 0 h
set_option maxRecDepth 100000 in
set_option maxHeartbeats 4000000 in
theorem R_L_X12_thieves_60 (N : Nat) : ∀ (n : Nat) (x1 : Int) (x2 : Int) (x3 : Int) (x4 : Int) (x5 : Int) (x6 : Int) (x7 : Int) (h : Hp) (res : Int × Hp), L_X12_thieves_60 N n x1 x2 x3 x4 x5 x6 x7 h = some res → Go M_X12_thieves 2 60 [some (.inr 84), some (.inl x1), some (.inl x2), some (.inl x3), some (.inl x4), some (.inl x5), some (.inl x6), some (.inl x7), none, none] [] h (Qi res)
  | 0, _, _, _, _, _, _, _, _, _, H => by cases H
  | n + 1, x1, x2, x3, x4, x5, x6, x7, h, res, H => by
    have ih := R_L_X12_thieves_60 N n
    simp only [L_X12_thieves_60] at H
    refine g_iload (T_X12_thieves 32 _ _ _ rfl) rfl ?_
    refine g_iconst (T_X12_thieves 33 _ _ _ rfl) ⟨by decide, by decide⟩ ?_
    refine g_iload_n (T_X12_thieves 34 _ _ _ rfl) rfl ?_
    refine g_ishl (T_X12_thieves 35 _ _ _ rfl) ?_
    refine g_icmp_ge (tgt := 158) (T_X12_thieves 36 _ _ _ rfl) (by decide) (fun cc => ?_) (fun cc => ?_)
    · replace H := ite_p cc H
      refine g_iload_n (T_X12_thieves 81 _ _ _ rfl) rfl ?_
      refine g_if_ne (tgt := 167) (T_X12_thieves 82 _ _ _ rfl) (by decide) (fun cc => ?_) (fun cc => ?_)
      · replace H := ite_n cc H
        refine g_iload (T_X12_thieves 85 _ _ _ rfl) rfl ?_
        refine g_if_eq (tgt := 177) (T_X12_thieves 86 _ _ _ rfl) (by decide) (fun cc => ?_) (fun cc => ?_)
        · replace H := ite_p cc H
          refine g_iload (T_X12_thieves 90 _ _ _ rfl) rfl ?_
          refine g_goto (tgt := 184) (T_X12_thieves 91 _ _ _ rfl) (by decide) ?_
          exact g_iret (T_X12_thieves 93 _ _ _ rfl) rfl (qi_of H)
        · replace H := ite_n cc H
          refine g_iload_n (T_X12_thieves 87 _ _ _ rfl) rfl ?_
          refine g_iconst (T_X12_thieves 88 _ _ _ rfl) ⟨by decide, by decide⟩ ?_
          refine g_icmp_ne (tgt := 182) (T_X12_thieves 89 _ _ _ rfl) (by decide) (fun cc => ?_) (fun cc => ?_)
          · replace H := ite_n cc H
            refine g_iload (T_X12_thieves 92 _ _ _ rfl) rfl ?_
            exact g_iret (T_X12_thieves 93 _ _ _ rfl) rfl (qi_of H)
          · replace H := ite_p cc H
            refine g_iload (T_X12_thieves 90 _ _ _ rfl) rfl ?_
            refine g_goto (tgt := 184) (T_X12_thieves 91 _ _ _ rfl) (by decide) ?_
            exact g_iret (T_X12_thieves 93 _ _ _ rfl) rfl (qi_of H)
      · replace H := ite_p cc H
        refine g_iload (T_X12_thieves 83 _ _ _ rfl) rfl ?_
        refine g_goto (tgt := 184) (T_X12_thieves 84 _ _ _ rfl) (by decide) ?_
        exact g_iret (T_X12_thieves 93 _ _ _ rfl) rfl (qi_of H)
    · replace H := ite_n cc H
      refine g_iconst (T_X12_thieves 37 _ _ _ rfl) ⟨by decide, by decide⟩ ?_
      refine g_istore (T_X12_thieves 38 _ _ _ rfl) (by decide) ?_
      refine g_iconst (T_X12_thieves 39 _ _ _ rfl) ⟨by decide, by decide⟩ ?_
      refine g_istore (T_X12_thieves 40 _ _ _ rfl) (by decide) ?_
      refine g_weak [true, true, true, true, true, true, true, true, true, true] ?_
      refine R_L_X12_thieves_74 N _ (fun v1 v2 v3 v4 v5 v6 v7 v8 h9 res H => ?_) _ _ _ _ _ _ _ _ _ _ _ _ H
      · refine g_iload (T_X12_thieves 61 _ _ _ rfl) rfl ?_
        refine g_iload_n (T_X12_thieves 62 _ _ _ rfl) rfl ?_
        refine g_icmp_eq (tgt := 125) (T_X12_thieves 63 _ _ _ rfl) (by decide) (fun cc => ?_) (fun cc => ?_)
        · replace H := ite_p cc H
          refine g_iload (T_X12_thieves 65 _ _ _ rfl) rfl ?_
          refine g_if_ne (tgt := 135) (T_X12_thieves 66 _ _ _ rfl) (by decide) (fun cc => ?_) (fun cc => ?_)
          · replace H := ite_n cc H
            refine g_iload (T_X12_thieves 69 _ _ _ rfl) rfl ?_
            refine g_weak [true, true, true, true, true, false, true, true, false, false] ?_
            exact R_J_X12_thieves_137 N (L_X12_thieves_60 N n) ih _ _ _ _ _ _ _ _ _ H
          · replace H := ite_p cc H
            refine g_iload (T_X12_thieves 67 _ _ _ rfl) rfl ?_
            refine g_goto (tgt := 137) (T_X12_thieves 68 _ _ _ rfl) (by decide) ?_
            refine g_weak [true, true, true, true, true, false, true, true, false, false] ?_
            exact R_J_X12_thieves_137 N (L_X12_thieves_60 N n) ih _ _ _ _ _ _ _ _ _ H
        · replace H := ite_n cc H
          refine g_goto (tgt := 152) (T_X12_thieves 64 _ _ _ rfl) (by decide) ?_
          refine g_weak [true, true, true, true, true, true, true, true, false, false] ?_
          exact R_J_X12_thieves_152 N (L_X12_thieves_60 N n) ih _ _ _ _ _ _ _ _ _ H
def F_X12_thieves (N : Nat) (x1 : Int) (x2 : Int) (x3 : Int) (h : Hp) : Option (Int × Hp) :=
  bd (F_X12_in N x1 1 10 h) fun y2 h1 =>
  if y2 = 0 then
    some ((-1), h1)
  else
  bd (F_X12_in N x2 0 2550 h1) fun y4 h3 =>
  if y4 = 0 then
    some ((-1), h3)
  else
  bd (F_X12_in N x3 0 2 h3) fun y6 h5 =>
  if y6 = 0 then
    some ((-1), h5)
  else
  if x1 ≤ (h5 83 15) then
    bnd (hw h5 83 15 0) fun h7 =>
    L_X12_thieves_60 N  N x1 x2 x3 0 (-2) 1023 0 h7
  else
  some ((-1), h5)
set_option maxRecDepth 100000 in
set_option maxHeartbeats 4000000 in
theorem R_X12_thieves (N : Nat) (x1 : Int) (x2 : Int) (x3 : Int) (h : Hp) (res : Int × Hp) (H : F_X12_thieves N x1 x2 x3 h = some res) : Runs M_X12_thieves 2 [.inr 84, .inl x1, .inl x2, .inl x3] h (Qi res) := by
  refine Runs.of rfl (Nat.le_of_ble_eq_true rfl) ?_
  show Go M_X12_thieves 2 0 [some (.inr 84), some (.inl x1), some (.inl x2), some (.inl x3), none, none, none, none, none, none] [] h (Qi res)
  unfold F_X12_thieves at H
  refine g_iload_n (T_X12_thieves 0 _ _ _ rfl) rfl ?_
  refine g_iconst (T_X12_thieves 1 _ _ _ rfl) ⟨by decide, by decide⟩ ?_
  refine g_bipush (T_X12_thieves 2 _ _ _ rfl) (by decide) ?_
  obtain ⟨y2, h1, hq, H⟩ := bd_some H
  refine g_callSi (M' := M_X12_in) (av := [.inl x1, .inl 1, .inl 10]) (st := []) (T_X12_thieves 3 _ _ _ rfl) ml_X12_155 cb_X12_in rfl (Nat.le_of_ble_eq_true rfl) (by omega) (R_X12_in N _ _ _ _ _ hq) ?_
  refine g_if_eq (tgt := 38) (T_X12_thieves 4 _ _ _ rfl) (by decide) (fun cc => ?_) (fun cc => ?_)
  · replace H := ite_p cc H
    refine g_iconst (T_X12_thieves 19 _ _ _ rfl) ⟨by decide, by decide⟩ ?_
    exact g_iret (T_X12_thieves 20 _ _ _ rfl) rfl (qi_of H)
  · replace H := ite_n cc H
    refine g_iload_n (T_X12_thieves 5 _ _ _ rfl) rfl ?_
    refine g_iconst (T_X12_thieves 6 _ _ _ rfl) ⟨by decide, by decide⟩ ?_
    refine g_sipush (T_X12_thieves 7 _ _ _ rfl) (by decide) ?_
    obtain ⟨y4, h3, hq, H⟩ := bd_some H
    refine g_callSi (M' := M_X12_in) (av := [.inl x2, .inl 0, .inl 2550]) (st := []) (T_X12_thieves 8 _ _ _ rfl) ml_X12_155 cb_X12_in rfl (Nat.le_of_ble_eq_true rfl) (by omega) (R_X12_in N _ _ _ _ _ hq) ?_
    refine g_if_eq (tgt := 38) (T_X12_thieves 9 _ _ _ rfl) (by decide) (fun cc => ?_) (fun cc => ?_)
    · replace H := ite_p cc H
      refine g_iconst (T_X12_thieves 19 _ _ _ rfl) ⟨by decide, by decide⟩ ?_
      exact g_iret (T_X12_thieves 20 _ _ _ rfl) rfl (qi_of H)
    · replace H := ite_n cc H
      refine g_iload_n (T_X12_thieves 10 _ _ _ rfl) rfl ?_
      refine g_iconst (T_X12_thieves 11 _ _ _ rfl) ⟨by decide, by decide⟩ ?_
      refine g_iconst (T_X12_thieves 12 _ _ _ rfl) ⟨by decide, by decide⟩ ?_
      obtain ⟨y6, h5, hq, H⟩ := bd_some H
      refine g_callSi (M' := M_X12_in) (av := [.inl x3, .inl 0, .inl 2]) (st := []) (T_X12_thieves 13 _ _ _ rfl) ml_X12_155 cb_X12_in rfl (Nat.le_of_ble_eq_true rfl) (by omega) (R_X12_in N _ _ _ _ _ hq) ?_
      refine g_if_eq (tgt := 38) (T_X12_thieves 14 _ _ _ rfl) (by decide) (fun cc => ?_) (fun cc => ?_)
      · replace H := ite_p cc H
        refine g_iconst (T_X12_thieves 19 _ _ _ rfl) ⟨by decide, by decide⟩ ?_
        exact g_iret (T_X12_thieves 20 _ _ _ rfl) rfl (qi_of H)
      · replace H := ite_n cc H
        refine g_iload_n (T_X12_thieves 15 _ _ _ rfl) rfl ?_
        refine g_aload_n (T_X12_thieves 16 _ _ _ rfl) rfl ?_
        refine g_getI (c := 83) (T_X12_thieves 17 _ _ _ rfl) fl_X12_159 rfl (Or.inl rfl) ?_
        refine g_icmp_le (tgt := 40) (T_X12_thieves 18 _ _ _ rfl) (by decide) (fun cc => ?_) (fun cc => ?_)
        · replace H := ite_p cc H
          refine g_aload_n (T_X12_thieves 21 _ _ _ rfl) rfl ?_
          refine g_iconst (T_X12_thieves 22 _ _ _ rfl) ⟨by decide, by decide⟩ ?_
          refine g_put (c := 83) (T_X12_thieves 23 _ _ _ rfl) fl_X12_159 rfl (Or.inl rfl) ?_
          refine g_bndH H fun h7 H => ?_
          refine g_iconst (T_X12_thieves 24 _ _ _ rfl) ⟨by decide, by decide⟩ ?_
          refine g_istore (T_X12_thieves 25 _ _ _ rfl) (by decide) ?_
          refine g_bipush (T_X12_thieves 26 _ _ _ rfl) (by decide) ?_
          refine g_istore (T_X12_thieves 27 _ _ _ rfl) (by decide) ?_
          refine g_sipush (T_X12_thieves 28 _ _ _ rfl) (by decide) ?_
          refine g_istore (T_X12_thieves 29 _ _ _ rfl) (by decide) ?_
          refine g_iconst (T_X12_thieves 30 _ _ _ rfl) ⟨by decide, by decide⟩ ?_
          refine g_istore (T_X12_thieves 31 _ _ _ rfl) (by decide) ?_
          refine g_weak [true, true, true, true, true, true, true, true, false, false] ?_
          refine R_L_X12_thieves_60 N   _ _ _ _ _ _ _ _ _ _ H
        · replace H := ite_n cc H
          refine g_iconst (T_X12_thieves 19 _ _ _ rfl) ⟨by decide, by decide⟩ ?_
          exact g_iret (T_X12_thieves 20 _ _ _ rfl) rfl (qi_of H)
def L_X12_latest_69 (N : Nat) : Nat → Int → Int → Int → Int → Int → Hp → Option (Int × Hp)
  | 0, _, _, _, _, _, _ => none
  | n + 1, x1, x2, x3, x4, x5, h =>
    if x1 ≤ x5 then
      if 0 ≤ x4 then
        some (x4, h)
      else
      some ((-2), h)
    else
    grd (0 ≤ (w32 (3 * x5)) ∧ (w32 (3 * x5)) < 260) <|
    bnd ((h 96 (w32 (3 * x5)).toNat)) fun y1 =>
    bd (F_X12_farOf N x2 y1 h) fun y3 h2 =>
    if y3 < 1000000 then
      bd (F_X12_farOf N x2 y1 h2) fun y5 h4 =>
      bnd ((w32 (x3 + y5))) fun y6 =>
      grd (0 ≤ (w32 ((w32 (3 * x5)) + 1)) ∧ (w32 ((w32 (3 * x5)) + 1)) < 260) <|
      grd (0 ≤ (w32 ((w32 (3 * x5)) + 2)) ∧ (w32 ((w32 (3 * x5)) + 2)) < 260) <|
      bd (F_X12_min N x4 (w32 ((w32 ((w32 ((iand (h4 96 (w32 ((w32 (3 * x5)) + 1)).toNat) 255) * 256)) + (iand (h4 96 (w32 ((w32 (3 * x5)) + 2)).toNat) 255))) - y6)) h4) fun y8 h7 =>
      bnd (w32 (x5 + 1)) fun y9 =>
      (L_X12_latest_69 N n) x1 y1 y6 y8 y9 h7
    else
    some ((-2), h2)
set_option maxRecDepth 100000 in
set_option maxHeartbeats 4000000 in
theorem R_L_X12_latest_69 (N : Nat) : ∀ (n : Nat) (x1 : Int) (x2 : Int) (x3 : Int) (x4 : Int) (x5 : Int) (h : Hp) (res : Int × Hp), L_X12_latest_69 N n x1 x2 x3 x4 x5 h = some res → Go M_X12_latest 3 69 [some (.inr 84), some (.inl x1), some (.inl x2), some (.inl x3), some (.inl x4), some (.inl x5), none] [] h (Qi res)
  | 0, _, _, _, _, _, _, _, H => by cases H
  | n + 1, x1, x2, x3, x4, x5, h, res, H => by
    have ih := R_L_X12_latest_69 N n
    simp only [L_X12_latest_69] at H
    refine g_iload (T_X12_latest 42 _ _ _ rfl) rfl ?_
    refine g_iload_n (T_X12_latest 43 _ _ _ rfl) rfl ?_
    refine g_icmp_ge (tgt := 164) (T_X12_latest 44 _ _ _ rfl) (by decide) (fun cc => ?_) (fun cc => ?_)
    · replace H := ite_p cc H
      refine g_iload (T_X12_latest 99 _ _ _ rfl) rfl ?_
      refine g_if_ge (tgt := 174) (T_X12_latest 100 _ _ _ rfl) (by decide) (fun cc => ?_) (fun cc => ?_)
      · replace H := ite_p cc H
        refine g_iload (T_X12_latest 103 _ _ _ rfl) rfl ?_
        exact g_iret (T_X12_latest 104 _ _ _ rfl) rfl (qi_of H)
      · replace H := ite_n cc H
        refine g_bipush (T_X12_latest 101 _ _ _ rfl) (by decide) ?_
        refine g_goto (tgt := 176) (T_X12_latest 102 _ _ _ rfl) (by decide) ?_
        exact g_iret (T_X12_latest 104 _ _ _ rfl) rfl (qi_of H)
    · replace H := ite_n cc H
      refine g_aload_n (T_X12_latest 45 _ _ _ rfl) rfl ?_
      refine g_getR (c := 83) (r := 97) (T_X12_latest 46 _ _ _ rfl) fl_X12_46 rfl (nR rfl) rfl (by decide) ?_
      refine g_iconst (T_X12_latest 47 _ _ _ rfl) ⟨by decide, by decide⟩ ?_
      refine g_iload (T_X12_latest 48 _ _ _ rfl) rfl ?_
      refine g_imul (T_X12_latest 49 _ _ _ rfl) ?_
      obtain ⟨hg, H⟩ := grd_some H
      refine g_bald (c := 96) (T_X12_latest 50 _ _ _ rfl) rfl hg ?_
      refine g_bndI H fun y1 H => ?_
      refine g_istore (T_X12_latest 51 _ _ _ rfl) (by decide) ?_
      refine g_aload_n (T_X12_latest 52 _ _ _ rfl) rfl ?_
      refine g_iload_n (T_X12_latest 53 _ _ _ rfl) rfl ?_
      refine g_iload (T_X12_latest 54 _ _ _ rfl) rfl ?_
      obtain ⟨y3, h2, hq, H⟩ := bd_some H
      refine g_callVi (M' := M_X12_farOf) (c := 83) (av := [.inl x2, .inl y1]) (st := []) (T_X12_latest 55 _ _ _ rfl) ml_X12_293 cb_X12_farOf rfl rfl (Nat.le_of_ble_eq_true rfl) (by omega) (R_X12_farOf N _ _ _ _ hq) ?_
      refine g_ldc (T_X12_latest 56 _ _ _ rfl) kc_X12_150 ⟨by decide, by decide⟩ ?_
      refine g_icmp_lt (tgt := 101) (T_X12_latest 57 _ _ _ rfl) (by decide) (fun cc => ?_) (fun cc => ?_)
      · replace H := ite_p cc H
        refine g_iload_n (T_X12_latest 60 _ _ _ rfl) rfl ?_
        refine g_aload_n (T_X12_latest 61 _ _ _ rfl) rfl ?_
        refine g_iload_n (T_X12_latest 62 _ _ _ rfl) rfl ?_
        refine g_iload (T_X12_latest 63 _ _ _ rfl) rfl ?_
        obtain ⟨y5, h4, hq, H⟩ := bd_some H
        refine g_callVi (M' := M_X12_farOf) (c := 83) (av := [.inl x2, .inl y1]) (st := [.inl x3]) (T_X12_latest 64 _ _ _ rfl) ml_X12_293 cb_X12_farOf rfl rfl (Nat.le_of_ble_eq_true rfl) (by omega) (R_X12_farOf N _ _ _ _ hq) ?_
        refine g_iadd (T_X12_latest 65 _ _ _ rfl) ?_
        refine g_bndI H fun y6 H => ?_
        refine g_istore_n (T_X12_latest 66 _ _ _ rfl) (by decide) ?_
        refine g_iload (T_X12_latest 67 _ _ _ rfl) rfl ?_
        refine g_aload_n (T_X12_latest 68 _ _ _ rfl) rfl ?_
        refine g_getR (c := 83) (r := 97) (T_X12_latest 69 _ _ _ rfl) fl_X12_46 rfl (nR rfl) rfl (by decide) ?_
        refine g_iconst (T_X12_latest 70 _ _ _ rfl) ⟨by decide, by decide⟩ ?_
        refine g_iload (T_X12_latest 71 _ _ _ rfl) rfl ?_
        refine g_imul (T_X12_latest 72 _ _ _ rfl) ?_
        refine g_iconst (T_X12_latest 73 _ _ _ rfl) ⟨by decide, by decide⟩ ?_
        refine g_iadd (T_X12_latest 74 _ _ _ rfl) ?_
        obtain ⟨hg, H⟩ := grd_some H
        refine g_bald (c := 96) (T_X12_latest 75 _ _ _ rfl) rfl hg ?_
        refine g_sipush (T_X12_latest 76 _ _ _ rfl) (by decide) ?_
        refine g_iand (T_X12_latest 77 _ _ _ rfl) ?_
        refine g_sipush (T_X12_latest 78 _ _ _ rfl) (by decide) ?_
        refine g_imul (T_X12_latest 79 _ _ _ rfl) ?_
        refine g_aload_n (T_X12_latest 80 _ _ _ rfl) rfl ?_
        refine g_getR (c := 83) (r := 97) (T_X12_latest 81 _ _ _ rfl) fl_X12_46 rfl (nR rfl) rfl (by decide) ?_
        refine g_iconst (T_X12_latest 82 _ _ _ rfl) ⟨by decide, by decide⟩ ?_
        refine g_iload (T_X12_latest 83 _ _ _ rfl) rfl ?_
        refine g_imul (T_X12_latest 84 _ _ _ rfl) ?_
        refine g_iconst (T_X12_latest 85 _ _ _ rfl) ⟨by decide, by decide⟩ ?_
        refine g_iadd (T_X12_latest 86 _ _ _ rfl) ?_
        obtain ⟨hg, H⟩ := grd_some H
        refine g_bald (c := 96) (T_X12_latest 87 _ _ _ rfl) rfl hg ?_
        refine g_sipush (T_X12_latest 88 _ _ _ rfl) (by decide) ?_
        refine g_iand (T_X12_latest 89 _ _ _ rfl) ?_
        refine g_iadd (T_X12_latest 90 _ _ _ rfl) ?_
        refine g_iload_n (T_X12_latest 91 _ _ _ rfl) rfl ?_
        refine g_isub (T_X12_latest 92 _ _ _ rfl) ?_
        obtain ⟨y8, h7, hq, H⟩ := bd_some H
        refine g_callSi (M' := M_X12_min) (av := [.inl x4, .inl (w32 ((w32 ((w32 ((iand (h4 96 (w32 ((w32 (3 * x5)) + 1)).toNat) 255) * 256)) + (iand (h4 96 (w32 ((w32 (3 * x5)) + 2)).toNat) 255))) - y6))]) (st := []) (T_X12_latest 93 _ _ _ rfl) ml_X12_151 cb_X12_min rfl (Nat.le_of_ble_eq_true rfl) (by omega) (R_X12_min N _ _ _ _ hq) ?_
        refine g_istore (T_X12_latest 94 _ _ _ rfl) (by decide) ?_
        refine g_iload (T_X12_latest 95 _ _ _ rfl) rfl ?_
        refine g_istore_n (T_X12_latest 96 _ _ _ rfl) (by decide) ?_
        refine g_iincB (T_X12_latest 97 _ _ _ rfl) rfl (by decide) H fun y9 H => ?_
        refine g_goto (tgt := 69) (T_X12_latest 98 _ _ _ rfl) (by decide) ?_
        refine g_weak [true, true, true, true, true, true, false] ?_
        exact ih _ _ _ _ _ _ _ H
      · replace H := ite_n cc H
        refine g_bipush (T_X12_latest 58 _ _ _ rfl) (by decide) ?_
        exact g_iret (T_X12_latest 59 _ _ _ rfl) rfl (qi_of H)
def L_X12_latest_29 (N : Nat) : Nat → Int → Int → Hp → Option (Int × Hp)
  | 0, _, _, _ => none
  | n + 1, x1, x2, h =>
    if x1 ≤ x2 then
      L_X12_latest_69 N  N x1 0 0 1000000 0 h
    else
    grd (0 ≤ (w32 (3 * x2)) ∧ (w32 (3 * x2)) < 260) <|
    bd (F_X12_isStreet N (h 96 (w32 (3 * x2)).toNat) h) fun y2 h1 =>
    if y2 = 0 then
      some ((-3), h1)
    else
    bnd (w32 (x2 + 1)) fun y3 =>
    (L_X12_latest_29 N n) x1 y3 h1
set_option maxRecDepth 100000 in
set_option maxHeartbeats 4000000 in
theorem R_L_X12_latest_29 (N : Nat) : ∀ (n : Nat) (x1 : Int) (x2 : Int) (h : Hp) (res : Int × Hp), L_X12_latest_29 N n x1 x2 h = some res → Go M_X12_latest 3 29 [some (.inr 84), some (.inl x1), some (.inl x2), none, none, none, none] [] h (Qi res)
  | 0, _, _, _, _, H => by cases H
  | n + 1, x1, x2, h, res, H => by
    have ih := R_L_X12_latest_29 N n
    simp only [L_X12_latest_29] at H
    refine g_iload_n (T_X12_latest 18 _ _ _ rfl) rfl ?_
    refine g_iload_n (T_X12_latest 19 _ _ _ rfl) rfl ?_
    refine g_icmp_ge (tgt := 58) (T_X12_latest 20 _ _ _ rfl) (by decide) (fun cc => ?_) (fun cc => ?_)
    · replace H := ite_p cc H
      refine g_iconst (T_X12_latest 34 _ _ _ rfl) ⟨by decide, by decide⟩ ?_
      refine g_istore_n (T_X12_latest 35 _ _ _ rfl) (by decide) ?_
      refine g_iconst (T_X12_latest 36 _ _ _ rfl) ⟨by decide, by decide⟩ ?_
      refine g_istore_n (T_X12_latest 37 _ _ _ rfl) (by decide) ?_
      refine g_ldc (T_X12_latest 38 _ _ _ rfl) kc_X12_150 ⟨by decide, by decide⟩ ?_
      refine g_istore (T_X12_latest 39 _ _ _ rfl) (by decide) ?_
      refine g_iconst (T_X12_latest 40 _ _ _ rfl) ⟨by decide, by decide⟩ ?_
      refine g_istore (T_X12_latest 41 _ _ _ rfl) (by decide) ?_
      refine g_weak [true, true, true, true, true, true, false] ?_
      refine R_L_X12_latest_69 N   _ _ _ _ _ _ _ _ H
    · replace H := ite_n cc H
      refine g_aload_n (T_X12_latest 21 _ _ _ rfl) rfl ?_
      refine g_aload_n (T_X12_latest 22 _ _ _ rfl) rfl ?_
      refine g_getR (c := 83) (r := 97) (T_X12_latest 23 _ _ _ rfl) fl_X12_46 rfl (nR rfl) rfl (by decide) ?_
      refine g_iconst (T_X12_latest 24 _ _ _ rfl) ⟨by decide, by decide⟩ ?_
      refine g_iload_n (T_X12_latest 25 _ _ _ rfl) rfl ?_
      refine g_imul (T_X12_latest 26 _ _ _ rfl) ?_
      obtain ⟨hg, H⟩ := grd_some H
      refine g_bald (c := 96) (T_X12_latest 27 _ _ _ rfl) rfl hg ?_
      obtain ⟨y2, h1, hq, H⟩ := bd_some H
      refine g_callVi (M' := M_X12_isStreet) (c := 83) (av := [.inl (h 96 (w32 (3 * x2)).toNat)]) (st := []) (T_X12_latest 28 _ _ _ rfl) ml_X12_146 cb_X12_isStreet rfl rfl (Nat.le_of_ble_eq_true rfl) (by omega) (R_X12_isStreet N _ _ _ hq) ?_
      refine g_if_ne (tgt := 52) (T_X12_latest 29 _ _ _ rfl) (by decide) (fun cc => ?_) (fun cc => ?_)
      · replace H := ite_n cc H
        refine g_iincB (T_X12_latest 32 _ _ _ rfl) rfl (by decide) H fun y3 H => ?_
        refine g_goto (tgt := 29) (T_X12_latest 33 _ _ _ rfl) (by decide) ?_
        refine g_weak [true, true, true, false, false, false, false] ?_
        exact ih _ _ _ _ H
      · replace H := ite_p cc H
        refine g_bipush (T_X12_latest 30 _ _ _ rfl) (by decide) ?_
        exact g_iret (T_X12_latest 31 _ _ _ rfl) rfl (qi_of H)
def F_X12_latest (N : Nat) (x1 : Int) (h : Hp) : Option (Int × Hp) :=
  bd (F_X12_in N x1 1 6 h) fun y2 h1 =>
  if y2 = 0 then
    some ((-1), h1)
  else
  if (w32 (3 * x1)) ≤ (h1 83 15) then
    bnd (hw h1 83 15 0) fun h3 =>
    L_X12_latest_29 N  N x1 0 h3
  else
  some ((-1), h1)
set_option maxRecDepth 100000 in
set_option maxHeartbeats 4000000 in
theorem R_X12_latest (N : Nat) (x1 : Int) (h : Hp) (res : Int × Hp) (H : F_X12_latest N x1 h = some res) : Runs M_X12_latest 3 [.inr 84, .inl x1] h (Qi res) := by
  refine Runs.of rfl (Nat.le_of_ble_eq_true rfl) ?_
  show Go M_X12_latest 3 0 [some (.inr 84), some (.inl x1), none, none, none, none, none] [] h (Qi res)
  unfold F_X12_latest at H
  refine g_iload_n (T_X12_latest 0 _ _ _ rfl) rfl ?_
  refine g_iconst (T_X12_latest 1 _ _ _ rfl) ⟨by decide, by decide⟩ ?_
  refine g_bipush (T_X12_latest 2 _ _ _ rfl) (by decide) ?_
  obtain ⟨y2, h1, hq, H⟩ := bd_some H
  refine g_callSi (M' := M_X12_in) (av := [.inl x1, .inl 1, .inl 6]) (st := []) (T_X12_latest 3 _ _ _ rfl) ml_X12_155 cb_X12_in rfl (Nat.le_of_ble_eq_true rfl) (by omega) (R_X12_in N _ _ _ _ _ hq) ?_
  refine g_if_eq (tgt := 20) (T_X12_latest 4 _ _ _ rfl) (by decide) (fun cc => ?_) (fun cc => ?_)
  · replace H := ite_p cc H
    refine g_iconst (T_X12_latest 11 _ _ _ rfl) ⟨by decide, by decide⟩ ?_
    exact g_iret (T_X12_latest 12 _ _ _ rfl) rfl (qi_of H)
  · replace H := ite_n cc H
    refine g_iconst (T_X12_latest 5 _ _ _ rfl) ⟨by decide, by decide⟩ ?_
    refine g_iload_n (T_X12_latest 6 _ _ _ rfl) rfl ?_
    refine g_imul (T_X12_latest 7 _ _ _ rfl) ?_
    refine g_aload_n (T_X12_latest 8 _ _ _ rfl) rfl ?_
    refine g_getI (c := 83) (T_X12_latest 9 _ _ _ rfl) fl_X12_159 rfl (Or.inl rfl) ?_
    refine g_icmp_le (tgt := 22) (T_X12_latest 10 _ _ _ rfl) (by decide) (fun cc => ?_) (fun cc => ?_)
    · replace H := ite_p cc H
      refine g_aload_n (T_X12_latest 13 _ _ _ rfl) rfl ?_
      refine g_iconst (T_X12_latest 14 _ _ _ rfl) ⟨by decide, by decide⟩ ?_
      refine g_put (c := 83) (T_X12_latest 15 _ _ _ rfl) fl_X12_159 rfl (Or.inl rfl) ?_
      refine g_bndH H fun h3 H => ?_
      refine g_iconst (T_X12_latest 16 _ _ _ rfl) ⟨by decide, by decide⟩ ?_
      refine g_istore_n (T_X12_latest 17 _ _ _ rfl) (by decide) ?_
      refine g_weak [true, true, true, false, false, false, false] ?_
      refine R_L_X12_latest_29 N   _ _ _ _ _ H
    · replace H := ite_n cc H
      refine g_iconst (T_X12_latest 11 _ _ _ rfl) ⟨by decide, by decide⟩ ?_
      exact g_iret (T_X12_latest 12 _ _ _ rfl) rfl (qi_of H)
def L_X12_copies_v3_2 (N : Nat) : Nat → Int → Hp → Option (Hp)
  | 0, _, _ => none
  | n + 1, x2, h =>
    if 17 ≤ x2 then
      some h
    else
    grd (0 ≤ x2 ∧ x2 < 17) <|
    grd (0 ≤ x2 ∧ x2 < 17) <|
    bnd (hw h 86 x2.toNat (h 84 x2.toNat)) fun h1 =>
    bnd (w32 (x2 + 1)) fun y2 =>
    (L_X12_copies_v3_2 N n) y2 h1
set_option maxRecDepth 100000 in
set_option maxHeartbeats 4000000 in
theorem R_L_X12_copies_v3_2 (N : Nat) : ∀ (n : Nat) (x2 : Int) (h : Hp) (res : Hp), L_X12_copies_v3_2 N n x2 h = some res → Go M_X12_copies 1 2 [some (.inr 85), some (.inr 87), some (.inl x2)] [] h (Qv res)
  | 0, _, _, _, H => by cases H
  | n + 1, x2, h, res, H => by
    have ih := R_L_X12_copies_v3_2 N n
    simp only [L_X12_copies_v3_2] at H
    refine g_iload_n (T_X12_copies 2 _ _ _ rfl) rfl ?_
    refine g_bipush (T_X12_copies 3 _ _ _ rfl) (by decide) ?_
    refine g_icmp_ge (tgt := 20) (T_X12_copies 4 _ _ _ rfl) (by decide) (fun cc => ?_) (fun cc => ?_)
    · replace H := ite_p cc H
      exact g_vret (T_X12_copies 13 _ _ _ rfl) rfl (qv_of H)
    · replace H := ite_n cc H
      refine g_aload_n (T_X12_copies 5 _ _ _ rfl) rfl ?_
      refine g_iload_n (T_X12_copies 6 _ _ _ rfl) rfl ?_
      refine g_aload_n (T_X12_copies 7 _ _ _ rfl) rfl ?_
      refine g_iload_n (T_X12_copies 8 _ _ _ rfl) rfl ?_
      obtain ⟨hg, H⟩ := grd_some H
      refine g_iald (c := 84) (T_X12_copies 9 _ _ _ rfl) rfl hg ?_
      obtain ⟨hg, H⟩ := grd_some H
      refine g_iast (c := 86) (T_X12_copies 10 _ _ _ rfl) rfl hg ?_
      refine g_bndH H fun h1 H => ?_
      refine g_iincB (T_X12_copies 11 _ _ _ rfl) rfl (by decide) H fun y2 H => ?_
      refine g_goto (tgt := 2) (T_X12_copies 12 _ _ _ rfl) (by decide) ?_
      refine g_weak [true, true, true] ?_
      exact ih _ _ _ H
def F_X12_copies_v3 (N : Nat) (h : Hp) : Option (Hp) :=
  L_X12_copies_v3_2 N  N 0 h
set_option maxRecDepth 100000 in
set_option maxHeartbeats 4000000 in
theorem R_X12_copies_v3 (N : Nat) (h : Hp) (res : Hp) (H : F_X12_copies_v3 N h = some res) : Runs M_X12_copies 1 [.inr 85, .inr 87] h (Qv res) := by
  refine Runs.of rfl (Nat.le_of_ble_eq_true rfl) ?_
  show Go M_X12_copies 1 0 [some (.inr 85), some (.inr 87), none] [] h (Qv res)
  unfold F_X12_copies_v3 at H
  refine g_iconst (T_X12_copies 0 _ _ _ rfl) ⟨by decide, by decide⟩ ?_
  refine g_istore_n (T_X12_copies 1 _ _ _ rfl) (by decide) ?_
  refine g_weak [true, true, true] ?_
  refine R_L_X12_copies_v3_2 N   _ _ _ _ H
def F_X12_keep (N : Nat) (h : Hp) : Option (Int × Hp) :=
  bnd (hw h 83 58 1) fun h1 =>
  bv (F_X12_copies_v3 N h1) fun h2 =>
  bd (F_X12_yardsAll N h2) fun y4 h3 =>
  some (y4, h3)
set_option maxRecDepth 100000 in
set_option maxHeartbeats 4000000 in
theorem R_X12_keep (N : Nat) (h : Hp) (res : Int × Hp) (H : F_X12_keep N h = some res) : Runs M_X12_keep 4 [.inr 84] h (Qi res) := by
  refine Runs.of rfl (Nat.le_of_ble_eq_true rfl) ?_
  show Go M_X12_keep 4 0 [some (.inr 84)] [] h (Qi res)
  unfold F_X12_keep at H
  refine g_aload_n (T_X12_keep 0 _ _ _ rfl) rfl ?_
  refine g_iconst (T_X12_keep 1 _ _ _ rfl) ⟨by decide, by decide⟩ ?_
  refine g_put (c := 83) (T_X12_keep 2 _ _ _ rfl) fl_X12_385 rfl (Or.inr ⟨rfl, by decide⟩) ?_
  refine g_bndH H fun h1 H => ?_
  refine g_aload_n (T_X12_keep 3 _ _ _ rfl) rfl ?_
  refine g_getR (c := 83) (r := 85) (T_X12_keep 4 _ _ _ rfl) fl_X12_7 rfl (nR rfl) rfl (by decide) ?_
  refine g_aload_n (T_X12_keep 5 _ _ _ rfl) rfl ?_
  refine g_getR (c := 83) (r := 87) (T_X12_keep 6 _ _ _ rfl) fl_X12_16 rfl (nR rfl) rfl (by decide) ?_
  obtain ⟨h2, hq, H⟩ := bv_some H
  refine g_callSv (M' := M_X12_copies) (av := [.inr 85, .inr 87]) (st := []) (T_X12_keep 7 _ _ _ rfl) ml_X12_335 cb_X12_copies rfl (Nat.le_of_ble_eq_true rfl) (by omega) (R_X12_copies_v3 N _ _ hq) ?_
  refine g_aload_n (T_X12_keep 8 _ _ _ rfl) rfl ?_
  obtain ⟨y4, h3, hq, H⟩ := bd_some H
  refine g_callVi (M' := M_X12_yardsAll) (c := 83) (av := []) (st := []) (T_X12_keep 9 _ _ _ rfl) ml_X12_332 cb_X12_yardsAll rfl rfl (Nat.le_of_ble_eq_true rfl) (by omega) (R_X12_yardsAll N _ _ hq) ?_
  exact g_iret (T_X12_keep 10 _ _ _ rfl) rfl (qi_of H)
def L_X12_copies_v4_2 (N : Nat) : Nat → Int → Hp → Option (Hp)
  | 0, _, _ => none
  | n + 1, x2, h =>
    if 17 ≤ x2 then
      some h
    else
    grd (0 ≤ x2 ∧ x2 < 17) <|
    grd (0 ≤ x2 ∧ x2 < 17) <|
    bnd (hw h 84 x2.toNat (h 86 x2.toNat)) fun h1 =>
    bnd (w32 (x2 + 1)) fun y2 =>
    (L_X12_copies_v4_2 N n) y2 h1
set_option maxRecDepth 100000 in
set_option maxHeartbeats 4000000 in
theorem R_L_X12_copies_v4_2 (N : Nat) : ∀ (n : Nat) (x2 : Int) (h : Hp) (res : Hp), L_X12_copies_v4_2 N n x2 h = some res → Go M_X12_copies 1 2 [some (.inr 87), some (.inr 85), some (.inl x2)] [] h (Qv res)
  | 0, _, _, _, H => by cases H
  | n + 1, x2, h, res, H => by
    have ih := R_L_X12_copies_v4_2 N n
    simp only [L_X12_copies_v4_2] at H
    refine g_iload_n (T_X12_copies 2 _ _ _ rfl) rfl ?_
    refine g_bipush (T_X12_copies 3 _ _ _ rfl) (by decide) ?_
    refine g_icmp_ge (tgt := 20) (T_X12_copies 4 _ _ _ rfl) (by decide) (fun cc => ?_) (fun cc => ?_)
    · replace H := ite_p cc H
      exact g_vret (T_X12_copies 13 _ _ _ rfl) rfl (qv_of H)
    · replace H := ite_n cc H
      refine g_aload_n (T_X12_copies 5 _ _ _ rfl) rfl ?_
      refine g_iload_n (T_X12_copies 6 _ _ _ rfl) rfl ?_
      refine g_aload_n (T_X12_copies 7 _ _ _ rfl) rfl ?_
      refine g_iload_n (T_X12_copies 8 _ _ _ rfl) rfl ?_
      obtain ⟨hg, H⟩ := grd_some H
      refine g_iald (c := 86) (T_X12_copies 9 _ _ _ rfl) rfl hg ?_
      obtain ⟨hg, H⟩ := grd_some H
      refine g_iast (c := 84) (T_X12_copies 10 _ _ _ rfl) rfl hg ?_
      refine g_bndH H fun h1 H => ?_
      refine g_iincB (T_X12_copies 11 _ _ _ rfl) rfl (by decide) H fun y2 H => ?_
      refine g_goto (tgt := 2) (T_X12_copies 12 _ _ _ rfl) (by decide) ?_
      refine g_weak [true, true, true] ?_
      exact ih _ _ _ H
def F_X12_copies_v4 (N : Nat) (h : Hp) : Option (Hp) :=
  L_X12_copies_v4_2 N  N 0 h
set_option maxRecDepth 100000 in
set_option maxHeartbeats 4000000 in
theorem R_X12_copies_v4 (N : Nat) (h : Hp) (res : Hp) (H : F_X12_copies_v4 N h = some res) : Runs M_X12_copies 1 [.inr 87, .inr 85] h (Qv res) := by
  refine Runs.of rfl (Nat.le_of_ble_eq_true rfl) ?_
  show Go M_X12_copies 1 0 [some (.inr 87), some (.inr 85), none] [] h (Qv res)
  unfold F_X12_copies_v4 at H
  refine g_iconst (T_X12_copies 0 _ _ _ rfl) ⟨by decide, by decide⟩ ?_
  refine g_istore_n (T_X12_copies 1 _ _ _ rfl) (by decide) ?_
  refine g_weak [true, true, true] ?_
  refine R_L_X12_copies_v4_2 N   _ _ _ _ H
def F_X12_undo (N : Nat) (h : Hp) : Option (Int × Hp) :=
  if (h 83 58) = 0 then
    some (0, h)
  else
  bv (F_X12_copies_v4 N h) fun h1 =>
  some (1, h1)
set_option maxRecDepth 100000 in
set_option maxHeartbeats 4000000 in
theorem R_X12_undo (N : Nat) (h : Hp) (res : Int × Hp) (H : F_X12_undo N h = some res) : Runs M_X12_undo 2 [.inr 84] h (Qi res) := by
  refine Runs.of rfl (Nat.le_of_ble_eq_true rfl) ?_
  show Go M_X12_undo 2 0 [some (.inr 84)] [] h (Qi res)
  unfold F_X12_undo at H
  refine g_aload_n (T_X12_undo 0 _ _ _ rfl) rfl ?_
  refine g_getI (c := 83) (T_X12_undo 1 _ _ _ rfl) fl_X12_385 rfl (Or.inr rfl) ?_
  refine g_if_ne (tgt := 9) (T_X12_undo 2 _ _ _ rfl) (by decide) (fun cc => ?_) (fun cc => ?_)
  · replace H := ite_n cc H
    refine g_aload_n (T_X12_undo 5 _ _ _ rfl) rfl ?_
    refine g_getR (c := 83) (r := 87) (T_X12_undo 6 _ _ _ rfl) fl_X12_16 rfl (nR rfl) rfl (by decide) ?_
    refine g_aload_n (T_X12_undo 7 _ _ _ rfl) rfl ?_
    refine g_getR (c := 83) (r := 85) (T_X12_undo 8 _ _ _ rfl) fl_X12_7 rfl (nR rfl) rfl (by decide) ?_
    obtain ⟨h1, hq, H⟩ := bv_some H
    refine g_callSv (M' := M_X12_copies) (av := [.inr 87, .inr 85]) (st := []) (T_X12_undo 9 _ _ _ rfl) ml_X12_335 cb_X12_copies rfl (Nat.le_of_ble_eq_true rfl) (by omega) (R_X12_copies_v4 N _ _ hq) ?_
    refine g_iconst (T_X12_undo 10 _ _ _ rfl) ⟨by decide, by decide⟩ ?_
    exact g_zret (T_X12_undo 11 _ _ _ rfl) rfl (by decide) (qi_of H)
  · replace H := ite_p cc H
    refine g_iconst (T_X12_undo 3 _ _ _ rfl) ⟨by decide, by decide⟩ ?_
    exact g_zret (T_X12_undo 4 _ _ _ rfl) rfl (by decide) (qi_of H)
def J_X12_check_86 (N : Nat) (k30 : Int → Int → Hp → Option (Int × Hp)) (x1 : Int) (x2 : Int) (s0 : Int) (s1 : Int) (h : Hp) : Option (Int × Hp) :=
  if s0 = s1 then
    bnd (w32 (x2 + 1)) fun y1 =>
    k30 x1 y1 h
  else
  some (x2, h)
set_option maxRecDepth 100000 in
set_option maxHeartbeats 4000000 in
theorem R_J_X12_check_86 (N : Nat) (k30 : Int → Int → Hp → Option (Int × Hp)) (hk30 : ∀ (x1 : Int) (x2 : Int) (h : Hp) (res : Int × Hp), k30 x1 x2 h = some res → Go M_X12_check 3 30 [some (.inr 84), some (.inl x1), some (.inl x2)] [] h (Qi res)) (x1 : Int) (x2 : Int) (s0 : Int) (s1 : Int) (h : Hp) (res : Int × Hp) (H : J_X12_check_86 N k30 x1 x2 s0 s1 h = some res) : Go M_X12_check 3 86 [some (.inr 84), some (.inl x1), some (.inl x2)] [.inl s1, .inl s0] h (Qi res) := by
  unfold J_X12_check_86 at H
  refine g_icmp_eq (tgt := 91) (T_X12_check 54 _ _ _ rfl) (by decide) (fun cc => ?_) (fun cc => ?_)
  · replace H := ite_p cc H
    refine g_iincB (T_X12_check 57 _ _ _ rfl) rfl (by decide) H fun y1 H => ?_
    refine g_goto (tgt := 30) (T_X12_check 58 _ _ _ rfl) (by decide) ?_
    refine g_weak [true, true, true] ?_
    exact hk30 _ _ _ _ H
  · replace H := ite_n cc H
    refine g_iload_n (T_X12_check 55 _ _ _ rfl) rfl ?_
    exact g_iret (T_X12_check 56 _ _ _ rfl) rfl (qi_of H)
def L_X12_check_30 (N : Nat) : Nat → Int → Int → Hp → Option (Int × Hp)
  | 0, _, _, _ => none
  | n + 1, x1, x2, h =>
    if x1 ≤ x2 then
      some ((-1), h)
    else
    grd (0 ≤ (w32 (2 * x2)) ∧ (w32 (2 * x2)) < 260) <|
    grd (0 ≤ (w32 ((w32 (2 * x2)) + 1)) ∧ (w32 ((w32 (2 * x2)) + 1)) < 260) <|
    bd (F_X12_isStreet N x2 h) fun y2 h1 =>
    if y2 = 0 then
      J_X12_check_86 N (L_X12_check_30 N n) x1 x2 (w32 ((w32 ((iand (h 96 (w32 (2 * x2)).toNat) 255) * 256)) + (iand (h 96 (w32 ((w32 (2 * x2)) + 1)).toNat) 255))) 0 h1
    else
    grd (0 ≤ (w32 (0 + x2)) ∧ (w32 (0 + x2)) < 17) <|
    J_X12_check_86 N (L_X12_check_30 N n) x1 x2 (w32 ((w32 ((iand (h 96 (w32 (2 * x2)).toNat) 255) * 256)) + (iand (h 96 (w32 ((w32 (2 * x2)) + 1)).toNat) 255))) (h1 84 (w32 (0 + x2)).toNat) h1
set_option maxRecDepth 100000 in
set_option maxHeartbeats 4000000 in
theorem R_L_X12_check_30 (N : Nat) : ∀ (n : Nat) (x1 : Int) (x2 : Int) (h : Hp) (res : Int × Hp), L_X12_check_30 N n x1 x2 h = some res → Go M_X12_check 3 30 [some (.inr 84), some (.inl x1), some (.inl x2)] [] h (Qi res)
  | 0, _, _, _, _, H => by cases H
  | n + 1, x1, x2, h, res, H => by
    have ih := R_L_X12_check_30 N n
    simp only [L_X12_check_30] at H
    refine g_iload_n (T_X12_check 18 _ _ _ rfl) rfl ?_
    refine g_iload_n (T_X12_check 19 _ _ _ rfl) rfl ?_
    refine g_icmp_ge (tgt := 97) (T_X12_check 20 _ _ _ rfl) (by decide) (fun cc => ?_) (fun cc => ?_)
    · replace H := ite_p cc H
      refine g_iconst (T_X12_check 59 _ _ _ rfl) ⟨by decide, by decide⟩ ?_
      exact g_iret (T_X12_check 60 _ _ _ rfl) rfl (qi_of H)
    · replace H := ite_n cc H
      refine g_aload_n (T_X12_check 21 _ _ _ rfl) rfl ?_
      refine g_getR (c := 83) (r := 97) (T_X12_check 22 _ _ _ rfl) fl_X12_46 rfl (nR rfl) rfl (by decide) ?_
      refine g_iconst (T_X12_check 23 _ _ _ rfl) ⟨by decide, by decide⟩ ?_
      refine g_iload_n (T_X12_check 24 _ _ _ rfl) rfl ?_
      refine g_imul (T_X12_check 25 _ _ _ rfl) ?_
      obtain ⟨hg, H⟩ := grd_some H
      refine g_bald (c := 96) (T_X12_check 26 _ _ _ rfl) rfl hg ?_
      refine g_sipush (T_X12_check 27 _ _ _ rfl) (by decide) ?_
      refine g_iand (T_X12_check 28 _ _ _ rfl) ?_
      refine g_sipush (T_X12_check 29 _ _ _ rfl) (by decide) ?_
      refine g_imul (T_X12_check 30 _ _ _ rfl) ?_
      refine g_aload_n (T_X12_check 31 _ _ _ rfl) rfl ?_
      refine g_getR (c := 83) (r := 97) (T_X12_check 32 _ _ _ rfl) fl_X12_46 rfl (nR rfl) rfl (by decide) ?_
      refine g_iconst (T_X12_check 33 _ _ _ rfl) ⟨by decide, by decide⟩ ?_
      refine g_iload_n (T_X12_check 34 _ _ _ rfl) rfl ?_
      refine g_imul (T_X12_check 35 _ _ _ rfl) ?_
      refine g_iconst (T_X12_check 36 _ _ _ rfl) ⟨by decide, by decide⟩ ?_
      refine g_iadd (T_X12_check 37 _ _ _ rfl) ?_
      obtain ⟨hg, H⟩ := grd_some H
      refine g_bald (c := 96) (T_X12_check 38 _ _ _ rfl) rfl hg ?_
      refine g_sipush (T_X12_check 39 _ _ _ rfl) (by decide) ?_
      refine g_iand (T_X12_check 40 _ _ _ rfl) ?_
      refine g_iadd (T_X12_check 41 _ _ _ rfl) ?_
      refine g_aload_n (T_X12_check 42 _ _ _ rfl) rfl ?_
      refine g_iload_n (T_X12_check 43 _ _ _ rfl) rfl ?_
      obtain ⟨y2, h1, hq, H⟩ := bd_some H
      refine g_callVi (M' := M_X12_isStreet) (c := 83) (av := [.inl x2]) (st := [.inl (w32 ((w32 ((iand (h 96 (w32 (2 * x2)).toNat) 255) * 256)) + (iand (h 96 (w32 ((w32 (2 * x2)) + 1)).toNat) 255)))]) (T_X12_check 44 _ _ _ rfl) ml_X12_146 cb_X12_isStreet rfl rfl (Nat.le_of_ble_eq_true rfl) (by omega) (R_X12_isStreet N _ _ _ hq) ?_
      refine g_if_eq (tgt := 85) (T_X12_check 45 _ _ _ rfl) (by decide) (fun cc => ?_) (fun cc => ?_)
      · replace H := ite_p cc H
        refine g_iconst (T_X12_check 53 _ _ _ rfl) ⟨by decide, by decide⟩ ?_
        refine g_weak [true, true, true] ?_
        exact R_J_X12_check_86 N (L_X12_check_30 N n) ih _ _ _ _ _ _ H
      · replace H := ite_n cc H
        refine g_aload_n (T_X12_check 46 _ _ _ rfl) rfl ?_
        refine g_getR (c := 83) (r := 85) (T_X12_check 47 _ _ _ rfl) fl_X12_7 rfl (nR rfl) rfl (by decide) ?_
        refine g_iconst (T_X12_check 48 _ _ _ rfl) ⟨by decide, by decide⟩ ?_
        refine g_iload_n (T_X12_check 49 _ _ _ rfl) rfl ?_
        refine g_iadd (T_X12_check 50 _ _ _ rfl) ?_
        obtain ⟨hg, H⟩ := grd_some H
        refine g_iald (c := 84) (T_X12_check 51 _ _ _ rfl) rfl hg ?_
        refine g_goto (tgt := 86) (T_X12_check 52 _ _ _ rfl) (by decide) ?_
        refine g_weak [true, true, true] ?_
        exact R_J_X12_check_86 N (L_X12_check_30 N n) ih _ _ _ _ _ _ H
def F_X12_check (N : Nat) (x1 : Int) (h : Hp) : Option (Int × Hp) :=
  bd (F_X12_in N x1 0 14 h) fun y2 h1 =>
  if y2 = 0 then
    some ((-2), h1)
  else
  if (w32 (2 * x1)) ≤ (h1 83 15) then
    bnd (hw h1 83 15 0) fun h3 =>
    L_X12_check_30 N  N x1 0 h3
  else
  some ((-2), h1)
set_option maxRecDepth 100000 in
set_option maxHeartbeats 4000000 in
theorem R_X12_check (N : Nat) (x1 : Int) (h : Hp) (res : Int × Hp) (H : F_X12_check N x1 h = some res) : Runs M_X12_check 3 [.inr 84, .inl x1] h (Qi res) := by
  refine Runs.of rfl (Nat.le_of_ble_eq_true rfl) ?_
  show Go M_X12_check 3 0 [some (.inr 84), some (.inl x1), none] [] h (Qi res)
  unfold F_X12_check at H
  refine g_iload_n (T_X12_check 0 _ _ _ rfl) rfl ?_
  refine g_iconst (T_X12_check 1 _ _ _ rfl) ⟨by decide, by decide⟩ ?_
  refine g_bipush (T_X12_check 2 _ _ _ rfl) (by decide) ?_
  obtain ⟨y2, h1, hq, H⟩ := bd_some H
  refine g_callSi (M' := M_X12_in) (av := [.inl x1, .inl 0, .inl 14]) (st := []) (T_X12_check 3 _ _ _ rfl) ml_X12_155 cb_X12_in rfl (Nat.le_of_ble_eq_true rfl) (by omega) (R_X12_in N _ _ _ _ _ hq) ?_
  refine g_if_eq (tgt := 20) (T_X12_check 4 _ _ _ rfl) (by decide) (fun cc => ?_) (fun cc => ?_)
  · replace H := ite_p cc H
    refine g_bipush (T_X12_check 11 _ _ _ rfl) (by decide) ?_
    exact g_iret (T_X12_check 12 _ _ _ rfl) rfl (qi_of H)
  · replace H := ite_n cc H
    refine g_iconst (T_X12_check 5 _ _ _ rfl) ⟨by decide, by decide⟩ ?_
    refine g_iload_n (T_X12_check 6 _ _ _ rfl) rfl ?_
    refine g_imul (T_X12_check 7 _ _ _ rfl) ?_
    refine g_aload_n (T_X12_check 8 _ _ _ rfl) rfl ?_
    refine g_getI (c := 83) (T_X12_check 9 _ _ _ rfl) fl_X12_159 rfl (Or.inl rfl) ?_
    refine g_icmp_le (tgt := 23) (T_X12_check 10 _ _ _ rfl) (by decide) (fun cc => ?_) (fun cc => ?_)
    · replace H := ite_p cc H
      refine g_aload_n (T_X12_check 13 _ _ _ rfl) rfl ?_
      refine g_iconst (T_X12_check 14 _ _ _ rfl) ⟨by decide, by decide⟩ ?_
      refine g_put (c := 83) (T_X12_check 15 _ _ _ rfl) fl_X12_159 rfl (Or.inl rfl) ?_
      refine g_bndH H fun h3 H => ?_
      refine g_iconst (T_X12_check 16 _ _ _ rfl) ⟨by decide, by decide⟩ ?_
      refine g_istore_n (T_X12_check 17 _ _ _ rfl) (by decide) ?_
      refine g_weak [true, true, true] ?_
      refine R_L_X12_check_30 N   _ _ _ _ _ H
    · replace H := ite_n cc H
      refine g_bipush (T_X12_check 11 _ _ _ rfl) (by decide) ?_
      exact g_iret (T_X12_check 12 _ _ _ rfl) rfl (qi_of H)
def J_X12_roadMany_37 (N : Nat) (k12 : Int → Int → Int → Hp → Option (Int × Hp)) (x2 : Int) (x3 : Int) (s0 : Int) (s1 : Int) (h : Hp) : Option (Int × Hp) :=
  bnd ((w32 (s0 + s1))) fun y1 =>
  bnd (w32 (x3 + 1)) fun y2 =>
  k12 y1 x2 y2 h
set_option maxRecDepth 100000 in
set_option maxHeartbeats 4000000 in
theorem R_J_X12_roadMany_37 (N : Nat) (k12 : Int → Int → Int → Hp → Option (Int × Hp)) (hk12 : ∀ (x1 : Int) (x2 : Int) (x3 : Int) (h : Hp) (res : Int × Hp), k12 x1 x2 x3 h = some res → Go M_X12_roadMany 1 12 [some (.inr 84), some (.inl x1), some (.inl x2), some (.inl x3)] [] h (Qi res)) (x2 : Int) (x3 : Int) (s0 : Int) (s1 : Int) (h : Hp) (res : Int × Hp) (H : J_X12_roadMany_37 N k12 x2 x3 s0 s1 h = some res) : Go M_X12_roadMany 1 37 [some (.inr 84), none, some (.inl x2), some (.inl x3)] [.inl s1, .inl s0] h (Qi res) := by
  unfold J_X12_roadMany_37 at H
  refine g_iadd (T_X12_roadMany 25 _ _ _ rfl) ?_
  refine g_bndI H fun y1 H => ?_
  refine g_istore_n (T_X12_roadMany 26 _ _ _ rfl) (by decide) ?_
  refine g_iincB (T_X12_roadMany 27 _ _ _ rfl) rfl (by decide) H fun y2 H => ?_
  refine g_goto (tgt := 12) (T_X12_roadMany 28 _ _ _ rfl) (by decide) ?_
  refine g_weak [true, true, true, true] ?_
  exact hk12 _ _ _ _ _ H
def L_X12_roadMany_12 (N : Nat) (k45 : Int → Int → Hp → Option (Int × Hp)) : Nat → Int → Int → Int → Hp → Option (Int × Hp)
  | 0, _, _, _, _ => none
  | n + 1, x1, x2, x3, h =>
    if x2 ≤ x3 then
      k45 x1 x2 h
    else
    grd (0 ≤ (w32 ((w32 (14 * x2)) + x3)) ∧ (w32 ((w32 (14 * x2)) + x3)) < 196) <|
    if (h 90 (w32 ((w32 (14 * x2)) + x3)).toNat) ≤ 0 then
      J_X12_roadMany_37 N (L_X12_roadMany_12 N k45 n) x2 x3 x1 0 h
    else
    J_X12_roadMany_37 N (L_X12_roadMany_12 N k45 n) x2 x3 x1 1 h
set_option maxRecDepth 100000 in
set_option maxHeartbeats 4000000 in
theorem R_L_X12_roadMany_12 (N : Nat) (k45 : Int → Int → Hp → Option (Int × Hp)) (hk45 : ∀ (x1 : Int) (x2 : Int) (h : Hp) (res : Int × Hp), k45 x1 x2 h = some res → Go M_X12_roadMany 1 45 [some (.inr 84), some (.inl x1), some (.inl x2), none] [] h (Qi res)) : ∀ (n : Nat) (x1 : Int) (x2 : Int) (x3 : Int) (h : Hp) (res : Int × Hp), L_X12_roadMany_12 N k45 n x1 x2 x3 h = some res → Go M_X12_roadMany 1 12 [some (.inr 84), some (.inl x1), some (.inl x2), some (.inl x3)] [] h (Qi res)
  | 0, _, _, _, _, _, H => by cases H
  | n + 1, x1, x2, x3, h, res, H => by
    have ih := R_L_X12_roadMany_12 N k45 hk45 n
    simp only [L_X12_roadMany_12] at H
    refine g_iload_n (T_X12_roadMany 9 _ _ _ rfl) rfl ?_
    refine g_iload_n (T_X12_roadMany 10 _ _ _ rfl) rfl ?_
    refine g_icmp_ge (tgt := 45) (T_X12_roadMany 11 _ _ _ rfl) (by decide) (fun cc => ?_) (fun cc => ?_)
    · replace H := ite_p cc H
      refine g_weak [true, true, true, false] ?_
      exact hk45 _ _ _ _ H
    · replace H := ite_n cc H
      refine g_iload_n (T_X12_roadMany 12 _ _ _ rfl) rfl ?_
      refine g_aload_n (T_X12_roadMany 13 _ _ _ rfl) rfl ?_
      refine g_getR (c := 83) (r := 91) (T_X12_roadMany 14 _ _ _ rfl) fl_X12_28 rfl (nR rfl) rfl (by decide) ?_
      refine g_bipush (T_X12_roadMany 15 _ _ _ rfl) (by decide) ?_
      refine g_iload_n (T_X12_roadMany 16 _ _ _ rfl) rfl ?_
      refine g_imul (T_X12_roadMany 17 _ _ _ rfl) ?_
      refine g_iload_n (T_X12_roadMany 18 _ _ _ rfl) rfl ?_
      refine g_iadd (T_X12_roadMany 19 _ _ _ rfl) ?_
      obtain ⟨hg, H⟩ := grd_some H
      refine g_iald (c := 90) (T_X12_roadMany 20 _ _ _ rfl) rfl hg ?_
      refine g_if_le (tgt := 36) (T_X12_roadMany 21 _ _ _ rfl) (by decide) (fun cc => ?_) (fun cc => ?_)
      · replace H := ite_p cc H
        refine g_iconst (T_X12_roadMany 24 _ _ _ rfl) ⟨by decide, by decide⟩ ?_
        refine g_weak [true, false, true, true] ?_
        exact R_J_X12_roadMany_37 N (L_X12_roadMany_12 N k45 n) ih _ _ _ _ _ _ H
      · replace H := ite_n cc H
        refine g_iconst (T_X12_roadMany 22 _ _ _ rfl) ⟨by decide, by decide⟩ ?_
        refine g_goto (tgt := 37) (T_X12_roadMany 23 _ _ _ rfl) (by decide) ?_
        refine g_weak [true, false, true, true] ?_
        exact R_J_X12_roadMany_37 N (L_X12_roadMany_12 N k45 n) ih _ _ _ _ _ _ H
def L_X12_roadMany_4 (N : Nat) : Nat → Int → Int → Hp → Option (Int × Hp)
  | 0, _, _, _ => none
  | n + 1, x1, x2, h =>
    if 14 ≤ x2 then
      some (x1, h)
    else
    L_X12_roadMany_12 N (fun (v1 : Int) (v2 : Int) (h3 : Hp) =>
      bnd (w32 (v2 + 1)) fun y4 =>
      (L_X12_roadMany_4 N n) v1 y4 h3) N x1 x2 0 h
set_option maxRecDepth 100000 in
set_option maxHeartbeats 4000000 in
theorem R_L_X12_roadMany_4 (N : Nat) : ∀ (n : Nat) (x1 : Int) (x2 : Int) (h : Hp) (res : Int × Hp), L_X12_roadMany_4 N n x1 x2 h = some res → Go M_X12_roadMany 1 4 [some (.inr 84), some (.inl x1), some (.inl x2), none] [] h (Qi res)
  | 0, _, _, _, _, H => by cases H
  | n + 1, x1, x2, h, res, H => by
    have ih := R_L_X12_roadMany_4 N n
    simp only [L_X12_roadMany_4] at H
    refine g_iload_n (T_X12_roadMany 4 _ _ _ rfl) rfl ?_
    refine g_bipush (T_X12_roadMany 5 _ _ _ rfl) (by decide) ?_
    refine g_icmp_ge (tgt := 51) (T_X12_roadMany 6 _ _ _ rfl) (by decide) (fun cc => ?_) (fun cc => ?_)
    · replace H := ite_p cc H
      refine g_iload_n (T_X12_roadMany 31 _ _ _ rfl) rfl ?_
      exact g_iret (T_X12_roadMany 32 _ _ _ rfl) rfl (qi_of H)
    · replace H := ite_n cc H
      refine g_iconst (T_X12_roadMany 7 _ _ _ rfl) ⟨by decide, by decide⟩ ?_
      refine g_istore_n (T_X12_roadMany 8 _ _ _ rfl) (by decide) ?_
      refine g_weak [true, true, true, true] ?_
      refine R_L_X12_roadMany_12 N _ (fun v1 v2 h3 res H => ?_) _ _ _ _ _ _ H
      · refine g_iincB (T_X12_roadMany 29 _ _ _ rfl) rfl (by decide) H fun y4 H => ?_
        refine g_goto (tgt := 4) (T_X12_roadMany 30 _ _ _ rfl) (by decide) ?_
        refine g_weak [true, true, true, false] ?_
        exact ih _ _ _ _ H
def F_X12_roadMany (N : Nat) (h : Hp) : Option (Int × Hp) :=
  L_X12_roadMany_4 N  N 0 0 h
set_option maxRecDepth 100000 in
set_option maxHeartbeats 4000000 in
theorem R_X12_roadMany (N : Nat) (h : Hp) (res : Int × Hp) (H : F_X12_roadMany N h = some res) : Runs M_X12_roadMany 1 [.inr 84] h (Qi res) := by
  refine Runs.of rfl (Nat.le_of_ble_eq_true rfl) ?_
  show Go M_X12_roadMany 1 0 [some (.inr 84), none, none, none] [] h (Qi res)
  unfold F_X12_roadMany at H
  refine g_iconst (T_X12_roadMany 0 _ _ _ rfl) ⟨by decide, by decide⟩ ?_
  refine g_istore_n (T_X12_roadMany 1 _ _ _ rfl) (by decide) ?_
  refine g_iconst (T_X12_roadMany 2 _ _ _ rfl) ⟨by decide, by decide⟩ ?_
  refine g_istore_n (T_X12_roadMany 3 _ _ _ rfl) (by decide) ?_
  refine g_weak [true, true, true, false] ?_
  refine R_L_X12_roadMany_4 N   _ _ _ _ _ H
def F_X12_streetIs (N : Nat) (x1 : Int) (x2 : Int) (h : Hp) : Option (Int × Hp) :=
  bd (F_X12_isStreet N x1 h) fun y2 h1 =>
  if y2 = 0 then
    some ((-1), h1)
  else
  if x2 = 0 then
    grd (0 ≤ x1 ∧ x1 < 14) <|
    some ((h1 87 x1.toNat), h1)
  else if x2 = 1 then
    grd (0 ≤ x1 ∧ x1 < 14) <|
    some ((h1 88 x1.toNat), h1)
  else if x2 = 2 then
    grd (0 ≤ x1 ∧ x1 < 14) <|
    some ((h1 89 x1.toNat), h1)
  else 
  grd (0 ≤ (w32 (0 + x1)) ∧ (w32 (0 + x1)) < 17) <|
  some ((h1 84 (w32 (0 + x1)).toNat), h1)
set_option maxRecDepth 100000 in
set_option maxHeartbeats 4000000 in
theorem R_X12_streetIs (N : Nat) (x1 : Int) (x2 : Int) (h : Hp) (res : Int × Hp) (H : F_X12_streetIs N x1 x2 h = some res) : Runs M_X12_streetIs 3 [.inr 84, .inl x1, .inl x2] h (Qi res) := by
  refine Runs.of rfl (Nat.le_of_ble_eq_true rfl) ?_
  show Go M_X12_streetIs 3 0 [some (.inr 84), some (.inl x1), some (.inl x2)] [] h (Qi res)
  unfold F_X12_streetIs at H
  refine g_aload_n (T_X12_streetIs 0 _ _ _ rfl) rfl ?_
  refine g_iload_n (T_X12_streetIs 1 _ _ _ rfl) rfl ?_
  obtain ⟨y2, h1, hq, H⟩ := bd_some H
  refine g_callVi (M' := M_X12_isStreet) (c := 83) (av := [.inl x1]) (st := []) (T_X12_streetIs 2 _ _ _ rfl) ml_X12_146 cb_X12_isStreet rfl rfl (Nat.le_of_ble_eq_true rfl) (by omega) (R_X12_isStreet N _ _ _ hq) ?_
  refine g_if_ne (tgt := 10) (T_X12_streetIs 3 _ _ _ rfl) (by decide) (fun cc => ?_) (fun cc => ?_)
  · replace H := ite_n cc H
    refine g_iload_n (T_X12_streetIs 6 _ _ _ rfl) rfl ?_
    by_cases cc0 : x2 = 0
    · replace H := ite_p cc0 H
      refine g_tswIn (tgt := 36) (T_X12_streetIs 7 _ _ _ rfl) (by rw [cc0]; decide) (by rw [cc0]; decide) (by first | (rw [cc0]; done) | (rw [cc0]; rfl)) (by decide) ?_
      refine g_aload_n (T_X12_streetIs 8 _ _ _ rfl) rfl ?_
      refine g_getR (c := 83) (r := 88) (T_X12_streetIs 9 _ _ _ rfl) fl_X12_19 rfl (nR rfl) rfl (by decide) ?_
      refine g_iload_n (T_X12_streetIs 10 _ _ _ rfl) rfl ?_
      obtain ⟨hg, H⟩ := grd_some H
      refine g_iald (c := 87) (T_X12_streetIs 11 _ _ _ rfl) rfl hg ?_
      exact g_iret (T_X12_streetIs 12 _ _ _ rfl) rfl (qi_of H)
    replace H := ite_n cc0 H
    by_cases cc1 : x2 = 1
    · replace H := ite_p cc1 H
      refine g_tswIn (tgt := 43) (T_X12_streetIs 7 _ _ _ rfl) (by rw [cc1]; decide) (by rw [cc1]; decide) (by first | (rw [cc1]; done) | (rw [cc1]; rfl)) (by decide) ?_
      refine g_aload_n (T_X12_streetIs 13 _ _ _ rfl) rfl ?_
      refine g_getR (c := 83) (r := 89) (T_X12_streetIs 14 _ _ _ rfl) fl_X12_22 rfl (nR rfl) rfl (by decide) ?_
      refine g_iload_n (T_X12_streetIs 15 _ _ _ rfl) rfl ?_
      obtain ⟨hg, H⟩ := grd_some H
      refine g_iald (c := 88) (T_X12_streetIs 16 _ _ _ rfl) rfl hg ?_
      exact g_iret (T_X12_streetIs 17 _ _ _ rfl) rfl (qi_of H)
    replace H := ite_n cc1 H
    by_cases cc2 : x2 = 2
    · replace H := ite_p cc2 H
      refine g_tswIn (tgt := 50) (T_X12_streetIs 7 _ _ _ rfl) (by rw [cc2]; decide) (by rw [cc2]; decide) (by first | (rw [cc2]; done) | (rw [cc2]; rfl)) (by decide) ?_
      refine g_aload_n (T_X12_streetIs 18 _ _ _ rfl) rfl ?_
      refine g_getR (c := 83) (r := 90) (T_X12_streetIs 19 _ _ _ rfl) fl_X12_25 rfl (nR rfl) rfl (by decide) ?_
      refine g_iload_n (T_X12_streetIs 20 _ _ _ rfl) rfl ?_
      obtain ⟨hg, H⟩ := grd_some H
      refine g_iald (c := 89) (T_X12_streetIs 21 _ _ _ rfl) rfl hg ?_
      exact g_iret (T_X12_streetIs 22 _ _ _ rfl) rfl (qi_of H)
    replace H := ite_n cc2 H
    refine g_tswOut (tgt := 57) (T_X12_streetIs 7 _ _ _ rfl) (by omega) (by decide) ?_
    refine g_aload_n (T_X12_streetIs 23 _ _ _ rfl) rfl ?_
    refine g_getR (c := 83) (r := 85) (T_X12_streetIs 24 _ _ _ rfl) fl_X12_7 rfl (nR rfl) rfl (by decide) ?_
    refine g_iconst (T_X12_streetIs 25 _ _ _ rfl) ⟨by decide, by decide⟩ ?_
    refine g_iload_n (T_X12_streetIs 26 _ _ _ rfl) rfl ?_
    refine g_iadd (T_X12_streetIs 27 _ _ _ rfl) ?_
    obtain ⟨hg, H⟩ := grd_some H
    refine g_iald (c := 84) (T_X12_streetIs 28 _ _ _ rfl) rfl hg ?_
    exact g_iret (T_X12_streetIs 29 _ _ _ rfl) rfl (qi_of H)
  · replace H := ite_p cc H
    refine g_iconst (T_X12_streetIs 4 _ _ _ rfl) ⟨by decide, by decide⟩ ?_
    exact g_iret (T_X12_streetIs 5 _ _ _ rfl) rfl (qi_of H)
def J_X12_count_159 (N : Nat) (x1 : Int) (h : Hp) : Option (Int × Hp) :=
  bd (F_X12_in N x1 100 104 h) fun y2 h1 =>
  if y2 = 0 then
    some ((-1), h1)
  else
  grd (0 ≤ (w32 (x1 - 100)) ∧ (w32 (x1 - 100)) < 5) <|
  some ((h1 93 (w32 (x1 - 100)).toNat), h1)
set_option maxRecDepth 100000 in
set_option maxHeartbeats 4000000 in
theorem R_J_X12_count_159 (N : Nat) (x1 : Int) (h : Hp) (res : Int × Hp) (H : J_X12_count_159 N x1 h = some res) : Go M_X12_count 4 159 [some (.inr 84), some (.inl x1)] [] h (Qi res) := by
  unfold J_X12_count_159 at H
  refine g_iload_n (T_X12_count 68 _ _ _ rfl) rfl ?_
  refine g_bipush (T_X12_count 69 _ _ _ rfl) (by decide) ?_
  refine g_bipush (T_X12_count 70 _ _ _ rfl) (by decide) ?_
  obtain ⟨y2, h1, hq, H⟩ := bd_some H
  refine g_callSi (M' := M_X12_in) (av := [.inl x1, .inl 100, .inl 104]) (st := []) (T_X12_count 71 _ _ _ rfl) ml_X12_155 cb_X12_in rfl (Nat.le_of_ble_eq_true rfl) (by omega) (R_X12_in N _ _ _ _ _ hq) ?_
  refine g_if_eq (tgt := 182) (T_X12_count 72 _ _ _ rfl) (by decide) (fun cc => ?_) (fun cc => ?_)
  · replace H := ite_p cc H
    refine g_iconst (T_X12_count 80 _ _ _ rfl) ⟨by decide, by decide⟩ ?_
    exact g_iret (T_X12_count 81 _ _ _ rfl) rfl (qi_of H)
  · replace H := ite_n cc H
    refine g_aload_n (T_X12_count 73 _ _ _ rfl) rfl ?_
    refine g_getR (c := 83) (r := 94) (T_X12_count 74 _ _ _ rfl) fl_X12_37 rfl (nR rfl) rfl (by decide) ?_
    refine g_iload_n (T_X12_count 75 _ _ _ rfl) rfl ?_
    refine g_bipush (T_X12_count 76 _ _ _ rfl) (by decide) ?_
    refine g_isub (T_X12_count 77 _ _ _ rfl) ?_
    obtain ⟨hg, H⟩ := grd_some H
    refine g_iald (c := 93) (T_X12_count 78 _ _ _ rfl) rfl hg ?_
    refine g_goto (tgt := 183) (T_X12_count 79 _ _ _ rfl) (by decide) ?_
    exact g_iret (T_X12_count 81 _ _ _ rfl) rfl (qi_of H)
def F_X12_count (N : Nat) (x1 : Int) (h : Hp) : Option (Int × Hp) :=
  if x1 = 0 then
    some ((h 84 (14 : Int).toNat), h)
  else if x1 = 1 then
    some ((h 84 (15 : Int).toNat), h)
  else if x1 = 2 then
    some ((h 84 (16 : Int).toNat), h)
  else if x1 = 3 then
    some ((h 83 12), h)
  else if x1 = 4 then
    some ((h 83 13), h)
  else if x1 = 5 then
    some ((h 83 24), h)
  else if x1 = 6 then
    some ((h 83 15), h)
  else if x1 = 7 then
    bd (F_X12_roadMany N h) fun y2 h1 =>
    some (y2, h1)
  else 
  bd (F_X12_in N x1 10 89 h) fun y4 h3 =>
  if y4 = 0 then
    bd (F_X12_in N x1 90 94 h3) fun y6 h5 =>
    if y6 = 0 then
      J_X12_count_159 N  x1 h5
    else
    bd (F_X12_isCart N (w32 (x1 - 90)) h5) fun y8 h7 =>
    if y8 = 0 then
      J_X12_count_159 N  x1 h7
    else
    grd (0 ≤ (w32 (x1 - 90)) ∧ (w32 (x1 - 90)) < 5) <|
    some ((h7 92 (w32 (x1 - 90)).toNat), h7)
  else
  bd (F_X12_streetIs N (irem (w32 (x1 - 10)) 20) (idiv (w32 (x1 - 10)) 20) h3) fun y10 h9 =>
  some (y10, h9)
set_option maxRecDepth 100000 in
set_option maxHeartbeats 4000000 in
theorem R_X12_count (N : Nat) (x1 : Int) (h : Hp) (res : Int × Hp) (H : F_X12_count N x1 h = some res) : Runs M_X12_count 4 [.inr 84, .inl x1] h (Qi res) := by
  refine Runs.of rfl (Nat.le_of_ble_eq_true rfl) ?_
  show Go M_X12_count 4 0 [some (.inr 84), some (.inl x1)] [] h (Qi res)
  unfold F_X12_count at H
  refine g_iload_n (T_X12_count 0 _ _ _ rfl) rfl ?_
  by_cases cc0 : x1 = 0
  · replace H := ite_p cc0 H
    refine g_tswIn (tgt := 48) (T_X12_count 1 _ _ _ rfl) (by rw [cc0]; decide) (by rw [cc0]; decide) (by first | (rw [cc0]; done) | (rw [cc0]; rfl)) (by decide) ?_
    refine g_aload_n (T_X12_count 2 _ _ _ rfl) rfl ?_
    refine g_getR (c := 83) (r := 85) (T_X12_count 3 _ _ _ rfl) fl_X12_7 rfl (nR rfl) rfl (by decide) ?_
    refine g_bipush (T_X12_count 4 _ _ _ rfl) (by decide) ?_
    refine g_iald (c := 84) (T_X12_count 5 _ _ _ rfl) rfl (by decide) ?_
    exact g_iret (T_X12_count 6 _ _ _ rfl) rfl (qi_of H)
  replace H := ite_n cc0 H
  by_cases cc1 : x1 = 1
  · replace H := ite_p cc1 H
    refine g_tswIn (tgt := 56) (T_X12_count 1 _ _ _ rfl) (by rw [cc1]; decide) (by rw [cc1]; decide) (by first | (rw [cc1]; done) | (rw [cc1]; rfl)) (by decide) ?_
    refine g_aload_n (T_X12_count 7 _ _ _ rfl) rfl ?_
    refine g_getR (c := 83) (r := 85) (T_X12_count 8 _ _ _ rfl) fl_X12_7 rfl (nR rfl) rfl (by decide) ?_
    refine g_bipush (T_X12_count 9 _ _ _ rfl) (by decide) ?_
    refine g_iald (c := 84) (T_X12_count 10 _ _ _ rfl) rfl (by decide) ?_
    exact g_iret (T_X12_count 11 _ _ _ rfl) rfl (qi_of H)
  replace H := ite_n cc1 H
  by_cases cc2 : x1 = 2
  · replace H := ite_p cc2 H
    refine g_tswIn (tgt := 64) (T_X12_count 1 _ _ _ rfl) (by rw [cc2]; decide) (by rw [cc2]; decide) (by first | (rw [cc2]; done) | (rw [cc2]; rfl)) (by decide) ?_
    refine g_aload_n (T_X12_count 12 _ _ _ rfl) rfl ?_
    refine g_getR (c := 83) (r := 85) (T_X12_count 13 _ _ _ rfl) fl_X12_7 rfl (nR rfl) rfl (by decide) ?_
    refine g_bipush (T_X12_count 14 _ _ _ rfl) (by decide) ?_
    refine g_iald (c := 84) (T_X12_count 15 _ _ _ rfl) rfl (by decide) ?_
    exact g_iret (T_X12_count 16 _ _ _ rfl) rfl (qi_of H)
  replace H := ite_n cc2 H
  by_cases cc3 : x1 = 3
  · replace H := ite_p cc3 H
    refine g_tswIn (tgt := 72) (T_X12_count 1 _ _ _ rfl) (by rw [cc3]; decide) (by rw [cc3]; decide) (by first | (rw [cc3]; done) | (rw [cc3]; rfl)) (by decide) ?_
    refine g_aload_n (T_X12_count 17 _ _ _ rfl) rfl ?_
    refine g_getI (c := 83) (T_X12_count 18 _ _ _ rfl) fl_X12_135 rfl (Or.inl rfl) ?_
    exact g_iret (T_X12_count 19 _ _ _ rfl) rfl (qi_of H)
  replace H := ite_n cc3 H
  by_cases cc4 : x1 = 4
  · replace H := ite_p cc4 H
    refine g_tswIn (tgt := 77) (T_X12_count 1 _ _ _ rfl) (by rw [cc4]; decide) (by rw [cc4]; decide) (by first | (rw [cc4]; done) | (rw [cc4]; rfl)) (by decide) ?_
    refine g_aload_n (T_X12_count 20 _ _ _ rfl) rfl ?_
    refine g_getI (c := 83) (T_X12_count 21 _ _ _ rfl) fl_X12_143 rfl (Or.inl rfl) ?_
    exact g_iret (T_X12_count 22 _ _ _ rfl) rfl (qi_of H)
  replace H := ite_n cc4 H
  by_cases cc5 : x1 = 5
  · replace H := ite_p cc5 H
    refine g_tswIn (tgt := 82) (T_X12_count 1 _ _ _ rfl) (by rw [cc5]; decide) (by rw [cc5]; decide) (by first | (rw [cc5]; done) | (rw [cc5]; rfl)) (by decide) ?_
    refine g_aload_n (T_X12_count 23 _ _ _ rfl) rfl ?_
    refine g_getI (c := 83) (T_X12_count 24 _ _ _ rfl) fl_X12_258 rfl (Or.inl rfl) ?_
    exact g_iret (T_X12_count 25 _ _ _ rfl) rfl (qi_of H)
  replace H := ite_n cc5 H
  by_cases cc6 : x1 = 6
  · replace H := ite_p cc6 H
    refine g_tswIn (tgt := 87) (T_X12_count 1 _ _ _ rfl) (by rw [cc6]; decide) (by rw [cc6]; decide) (by first | (rw [cc6]; done) | (rw [cc6]; rfl)) (by decide) ?_
    refine g_aload_n (T_X12_count 26 _ _ _ rfl) rfl ?_
    refine g_getI (c := 83) (T_X12_count 27 _ _ _ rfl) fl_X12_159 rfl (Or.inl rfl) ?_
    exact g_iret (T_X12_count 28 _ _ _ rfl) rfl (qi_of H)
  replace H := ite_n cc6 H
  by_cases cc7 : x1 = 7
  · replace H := ite_p cc7 H
    refine g_tswIn (tgt := 92) (T_X12_count 1 _ _ _ rfl) (by rw [cc7]; decide) (by rw [cc7]; decide) (by first | (rw [cc7]; done) | (rw [cc7]; rfl)) (by decide) ?_
    refine g_aload_n (T_X12_count 29 _ _ _ rfl) rfl ?_
    obtain ⟨y2, h1, hq, H⟩ := bd_some H
    refine g_callVi (M' := M_X12_roadMany) (c := 83) (av := []) (st := []) (T_X12_count 30 _ _ _ rfl) ml_X12_389 cb_X12_roadMany rfl rfl (Nat.le_of_ble_eq_true rfl) (by omega) (R_X12_roadMany N _ _ hq) ?_
    exact g_iret (T_X12_count 31 _ _ _ rfl) rfl (qi_of H)
  replace H := ite_n cc7 H
  refine g_tswOut (tgt := 97) (T_X12_count 1 _ _ _ rfl) (by omega) (by decide) ?_
  refine g_iload_n (T_X12_count 32 _ _ _ rfl) rfl ?_
  refine g_bipush (T_X12_count 33 _ _ _ rfl) (by decide) ?_
  refine g_bipush (T_X12_count 34 _ _ _ rfl) (by decide) ?_
  obtain ⟨y4, h3, hq, H⟩ := bd_some H
  refine g_callSi (M' := M_X12_in) (av := [.inl x1, .inl 10, .inl 89]) (st := []) (T_X12_count 35 _ _ _ rfl) ml_X12_155 cb_X12_in rfl (Nat.le_of_ble_eq_true rfl) (by omega) (R_X12_in N _ _ _ _ _ hq) ?_
  refine g_if_eq (tgt := 127) (T_X12_count 36 _ _ _ rfl) (by decide) (fun cc => ?_) (fun cc => ?_)
  · replace H := ite_p cc H
    refine g_iload_n (T_X12_count 50 _ _ _ rfl) rfl ?_
    refine g_bipush (T_X12_count 51 _ _ _ rfl) (by decide) ?_
    refine g_bipush (T_X12_count 52 _ _ _ rfl) (by decide) ?_
    obtain ⟨y6, h5, hq, H⟩ := bd_some H
    refine g_callSi (M' := M_X12_in) (av := [.inl x1, .inl 90, .inl 94]) (st := []) (T_X12_count 53 _ _ _ rfl) ml_X12_155 cb_X12_in rfl (Nat.le_of_ble_eq_true rfl) (by omega) (R_X12_in N _ _ _ _ _ hq) ?_
    refine g_if_eq (tgt := 159) (T_X12_count 54 _ _ _ rfl) (by decide) (fun cc => ?_) (fun cc => ?_)
    · replace H := ite_p cc H
      refine g_weak [true, true] ?_
      exact R_J_X12_count_159 N   _ _ _ H
    · replace H := ite_n cc H
      refine g_aload_n (T_X12_count 55 _ _ _ rfl) rfl ?_
      refine g_iload_n (T_X12_count 56 _ _ _ rfl) rfl ?_
      refine g_bipush (T_X12_count 57 _ _ _ rfl) (by decide) ?_
      refine g_isub (T_X12_count 58 _ _ _ rfl) ?_
      obtain ⟨y8, h7, hq, H⟩ := bd_some H
      refine g_callVi (M' := M_X12_isCart) (c := 83) (av := [.inl (w32 (x1 - 90))]) (st := []) (T_X12_count 59 _ _ _ rfl) ml_X12_317 cb_X12_isCart rfl rfl (Nat.le_of_ble_eq_true rfl) (by omega) (R_X12_isCart N _ _ _ hq) ?_
      refine g_if_eq (tgt := 159) (T_X12_count 60 _ _ _ rfl) (by decide) (fun cc => ?_) (fun cc => ?_)
      · replace H := ite_p cc H
        refine g_weak [true, true] ?_
        exact R_J_X12_count_159 N   _ _ _ H
      · replace H := ite_n cc H
        refine g_aload_n (T_X12_count 61 _ _ _ rfl) rfl ?_
        refine g_getR (c := 83) (r := 93) (T_X12_count 62 _ _ _ rfl) fl_X12_34 rfl (nR rfl) rfl (by decide) ?_
        refine g_iload_n (T_X12_count 63 _ _ _ rfl) rfl ?_
        refine g_bipush (T_X12_count 64 _ _ _ rfl) (by decide) ?_
        refine g_isub (T_X12_count 65 _ _ _ rfl) ?_
        obtain ⟨hg, H⟩ := grd_some H
        refine g_iald (c := 92) (T_X12_count 66 _ _ _ rfl) rfl hg ?_
        exact g_iret (T_X12_count 67 _ _ _ rfl) rfl (qi_of H)
  · replace H := ite_n cc H
    refine g_aload_n (T_X12_count 37 _ _ _ rfl) rfl ?_
    refine g_iload_n (T_X12_count 38 _ _ _ rfl) rfl ?_
    refine g_bipush (T_X12_count 39 _ _ _ rfl) (by decide) ?_
    refine g_isub (T_X12_count 40 _ _ _ rfl) ?_
    refine g_bipush (T_X12_count 41 _ _ _ rfl) (by decide) ?_
    refine g_irem (T_X12_count 42 _ _ _ rfl) (by decide) ?_
    refine g_iload_n (T_X12_count 43 _ _ _ rfl) rfl ?_
    refine g_bipush (T_X12_count 44 _ _ _ rfl) (by decide) ?_
    refine g_isub (T_X12_count 45 _ _ _ rfl) ?_
    refine g_bipush (T_X12_count 46 _ _ _ rfl) (by decide) ?_
    refine g_idiv (T_X12_count 47 _ _ _ rfl) (by decide) ?_
    obtain ⟨y10, h9, hq, H⟩ := bd_some H
    refine g_callVi (M' := M_X12_streetIs) (c := 83) (av := [.inl (irem (w32 (x1 - 10)) 20), .inl (idiv (w32 (x1 - 10)) 20)]) (st := []) (T_X12_count 48 _ _ _ rfl) ml_X12_392 cb_X12_streetIs rfl rfl (Nat.le_of_ble_eq_true rfl) (by omega) (R_X12_streetIs N _ _ _ _ hq) ?_
    exact g_iret (T_X12_count 49 _ _ _ rfl) rfl (qi_of H)
