/-! LAW -/
def lwz (c j : Nat) : Prop := c = 42 ∨ c = 96 ∨ (c = 41 ∧ j = 1) ∨ (c = 83 ∧ (j = 15 ∨ j = 24)) ∨ (c = 11 ∧ j = 4) ∨ (12 ≤ c ∧ c ≤ 17) ∨ (103 ≤ c ∧ c ≤ 107)
theorem Inv.il {N : Nat} {h h' : Hp} (e : ∀ c j, ¬ scr c j → ¬ lwz c j → h' c j = h c j) (hT : ITp h') (hL : IL N h') (H : Inv N h) : Inv N h' := by
  obtain ⟨t, i1, i2, i3, i4, i5, i6, i7, i8, i9, i10⟩ := H
  have ec : ∀ c, (∀ j, ¬ scr c j) → (∀ j, ¬ lwz c j) → h' c = h c := fun c hc hd => funext fun j => e c j (hc j) (hd j)
  unfold scr lwz at e ec
  exact ⟨t, i1.ag (e 1 4 (by omega) (by omega)) (e 83 12 (by omega) (by omega)), i2.ag (fun c hc => ec c (fun j => by omega) (fun j => by omega)), i3.ag (ec 5 (fun j => by omega) (fun j => by omega)) (fun i _ => e 84 i (by omega) (by omega)), i4.ag (fun j _ => e 1 j (by omega) (by omega)) (fun i _ => e 84 i (by omega) (by omega)), i5.ag (fun j _ => e 1 j (by omega) (by omega)) (ec 6 (fun j => by omega) (fun j => by omega)) (ec 86 (fun j => by omega) (fun j => by omega)) (e 83 58 (by omega) (by omega)), hT, i7.ag (e 83 13 (by omega) (by omega)) (fun c hc => ec c (fun j => by omega) (fun j => by omega)), i8.ag (e 7 3 (by omega) (by omega)) (fun c hc => ec c (fun j => by omega) (fun j => by omega)), hL, (e 83 51 (by omega) (by omega)).trans i10⟩
theorem op_law {N : Nat} (hN : 1000000 ≤ N) : ∀ a1 : Int, inR a1 → Sm (Inv N) (F_X11_law N a1) (F_X12_law N a1) := by
  intro x _ h hok hI
  obtain ⟨t, i1, i2, i3, i4, i5, ⟨L, hL, e1, e2, hb⟩, i7, i8, i9, i10⟩ := id hI
  unfold F_X11_law
  rw [s_isWithin, bd_s]
  by_cases q1 : 1 ≤ x ∧ x ≤ 240
  rotate_left
  · exact ⟨-1, h, h, by rw [if_neg q1, if_pos rfl], by unfold F_X12_law; rw [s_in, bd_s, if_neg q1, if_pos rfl], hI⟩
  rw [if_pos q1, if_neg (by decide), s_holds e1, bd_s]
  by_cases q2 : x ≤ (L : Int)
  rotate_left
  · exact ⟨-1, h, h, by rw [if_neg q2, if_pos rfl], by unfold F_X12_law; rw [s_in, bd_s, if_pos q1, if_neg (by decide), e2, if_neg q2], hI⟩
  rw [if_pos q2, if_neg (by decide)]
  obtain ⟨n, rfl⟩ : ∃ n : Nat, x = (n : Int) := ⟨x.toNat, by omega⟩
  obtain ⟨b, eb⟩ : ∃ b : Nat → Int, b = h 42 := ⟨_, rfl⟩
  have T : TXT b L n := ⟨hL, by omega, fun j hj => by rw [eb]; exact ⟨(hb j hj).1, (hb j hj).2.1⟩⟩
  obtain ⟨ha, o1, o2, o3⟩ := x_open (N := N) T (by omega) e1 (fun j hj => by rw [eb])
  obtain ⟨hs, ehs⟩ : ∃ hs, hs = hw (hw ha 44 4 0) 44 7 0 := ⟨_, rfl⟩
  have Ts : TC b L n 0 0 hs := o2.ag (fun c j z => by rw [ehs, hw_ne (by omega), hw_ne (by omega)])
  have rd : F_X3_read N ha = L_X3_read_9 N N 0 hs := by
    unfold F_X3_read F_X2_clear
    rw [bnd_s, bnd_s, bv_s, ehs]
  have xs : exL h hs := fun c j z => by rw [ehs, hw_ne (by omega), hw_ne (by omega)]; exact o3 c j (by omega)
  have m96 : ∀ j, j < L → iand (h 96 j) 255 = b j := fun j hj => by rw [eb]; exact tp_and hb hj
  have beg : ∀ g : Hp, (∀ c j, (c = 96 ∨ (c = 83 ∧ j = 15)) → g c j = h c j) → ∃ gz, F_X12_law N (n : Int) g = (bd (F_X12_readsClause N gz) fun y h => L_X12_law_46 N N y h) ∧ exN8 (hw g 83 17 (n : Int)) gz ∧ LSt b L n 0 0 0 hs gz := fun g G => by
    refine ⟨hw (hw (hw (hw g 83 16 0) 83 17 (n : Int)) 83 21 0) 83 23 0, ?_, fun c j z1 z2 => ?_, Ts, by rw [ehs, hw_eq]; rfl, by rw [ehs, hw_ne (by omega), hw_eq]; rfl, ⟨by rw [hw_ne (by omega), hw_ne (by omega), hw_ne (by omega), hw_eq]; rfl, by rw [hw_ne (by omega), hw_ne (by omega), hw_eq], fun j hj => by rw [hw_ne (by omega), hw_ne (by omega), hw_ne (by omega), hw_ne (by omega), G 96 j (by omega)]; exact m96 j hj⟩, by rw [hw_ne (by omega), hw_eq]; rfl, by rw [hw_eq]; rfl, by omega, by omega, fun i hi => absurd hi (by omega)⟩
    · unfold F_X12_law
      rw [s_in, bd_s, if_pos q1, if_neg (by decide), G 83 15 (by omega), e2, if_pos q2, bnd_s, bnd_s, bnd_s, bnd_s]
    · by_cases y : c = 83 ∧ j = 17
      · rw [y.1, y.2, hw_eq, hw_ne (by omega), hw_ne (by omega), hw_eq]
      · rw [hw_ne (by omega), hw_ne (by omega), hw_ne y, hw_ne (by omega), hw_ne y]
  obtain ⟨gz, -, -, S0⟩ := beg h (fun _ _ _ => rfl)
  obtain ⟨r, hh, b1, b2, R1⟩ := rdl (N := N) hN T (by omega) 1000 N N 0 0 0 hs gz (by omega) (by omega) (by omega) (by omega) S0
  have run := fun gz S => rdl (N := N) hN T (show n ≤ 240 by omega) 1000 N N 0 0 0 hs gz (by omega) (by omega) (by omega) (by omega) S
  have b1 : L_X3_read_9 N N 0 hs = some (r, hh) := b1
  obtain ⟨hT, k1, k2, k3, k4, k5⟩ := s_take (N := N) (h := hh)
  have xh : exL h hh := exL.tr xs b2
  have two : ∀ gx : Hp, (∀ c j, ¬ (c = 41 ∨ (44 ≤ c ∧ c ≤ 50) ∨ (11 ≤ c ∧ c ≤ 17)) → gx c j = h c j) → ∃ gz, F_X12_law N (n : Int) gx = (bd (F_X12_readsClause N gz) fun y h => L_X12_law_46 N N y h) ∧ exN8 (hw gx 83 17 (n : Int)) gz ∧ RdR b L n N r gz hh (bd (F_X12_readsClause N gz) fun y h => L_X12_law_46 N N y h) := fun gx G => by
    obtain ⟨gz2, y1, y2, y3⟩ := beg gx (fun c j z => G c j (by omega))
    obtain ⟨r2, h2, c1, c2, c3⟩ := run gz2 y3
    have c1 : L_X3_read_9 N N 0 hs = some (r2, h2) := c1
    rw [b1] at c1
    obtain ⟨rfl, rfl⟩ : r = r2 ∧ hh = h2 := by simpa using c1
    exact ⟨gz2, y1, y2, c3⟩
  unfold J_X11_law_68 F_X10_clear F_X3_fresh
  rw [o1, bv_s, rd, b1, bd_s]
  rcases R1 with ⟨K, p, l, g0, -, -, -, S, rfl⟩ | ⟨f, g0, f0, rfl, ⟨p, hp, tf⟩, -⟩
  · obtain ⟨gx, egx⟩ : ∃ gx, gx = hw hT 41 1 0 := ⟨_, rfl⟩
    have gxf : ∀ c j, ¬ (c = 41 ∨ (44 ≤ c ∧ c ≤ 50) ∨ (11 ≤ c ∧ c ≤ 17)) → gx c j = h c j := fun c j z => by rw [egx, hw_ne (by omega), k5 c j (by omega) (by omega)]; exact xh c j (by omega)
    obtain ⟨gz2, y1, y2, R2⟩ := two gx gxf
    rcases R2 with ⟨K2, p2, l2, g', w1, w2, w3, S2, w5⟩ | ⟨f, -, f0, -, ⟨p2, -, tf⟩, -⟩
    rotate_left
    · exact absurd (tf.2.2.2.2.1.symm.trans S.1.2.2.2.2.1) f0
    obtain ⟨z1, z2, z3, z4, z5, z6, z7, z8, z9⟩ := S2
    obtain ⟨gB, eB⟩ : ∃ gB, gB = hw (hw g' 83 15 0) 83 24 (K2 : Int) := ⟨_, rfl⟩
    have fB : ∀ c j, ¬ (c = 83 ∧ (j = 15 ∨ j = 24)) → gB c j = g' c j := fun c j z => by rw [eB, hw_ne (by omega), hw_ne (by omega)]
    obtain ⟨gC, u1, u2, u3⟩ := l_110 (N := N) (g := gB) (l := l2) (by omega) (by rw [fB 83 21 (by omega)]; exact z5) l2 N 0 gB (by omega) (by omega) (fun _ _ _ => rfl) (fun j hj => absurd hj (by omega))
    obtain ⟨gD, v1, v2, v3⟩ := l_138 (N := N) (g := gC) (K := K2) z7 (by rw [u2 83 23 (by omega), fB 83 23 (by omega)]; exact z6) K2 N 0 gC (by omega) (by omega) (fun _ _ _ => rfl) (fun j hj => absurd hj (by omega))
    have fx : ∀ c j, ¬ (c = 83 ∧ ((16 ≤ j ∧ j ≤ 23) ∨ j = 15 ∨ j = 24)) → ¬ (97 ≤ c ∧ c ≤ 107) → gD c j = gx c j := fun c j y3 y4 => by rw [v2 c j (by omega), u2 c j (by omega), fB c j (by omega), w2 c j (by omega) (by omega), y2 c j (by omega) (by omega), hw_ne (by omega)]
    have d97 : ∀ j, j < l2 → gD 103 j = g' 97 j := fun j hj => by rw [v2 103 j (by omega), u3 j hj, fB 97 j (by omega)]
    refine ⟨(K : Int), gx, gD, ?_, ?_, ?_⟩
    · rw [x_sound S.1, bd_s, if_pos rfl, if_neg (by decide), bd_s, grd_t rfl, k1, bv_s, bnd_s, bv_s, egx]
    · have u1 : L_X12_law_110 N N 0 gB = L_X12_law_138 N N 0 gC := u1
      have v1 : L_X12_law_138 N N 0 gC = some ((K2 : Int), gD) := v1
      rw [y1, w1]
      unfold J_X12_law_86
      rw [bnd_s, if_neg (by decide), hw_ne (by omega), z6, bnd_s, ← eB, u1, v1, w5]
    · refine hI.il (fun c j y3 y4 => ?_) ⟨0, by omega, ?_, ?_, fun j hj => absurd hj (by omega)⟩ (law_ok hN ⟨K2, z7, ?_, ?_, fun i hi => ?_⟩)
      · unfold scr at y3
        unfold lwz at y4
        rw [fx c j (by omega) (by omega)]
        exact gxf c j (by omega)
      · rw [fx 41 1 (by omega) (by omega), egx, hw_eq]; rfl
      · rw [v2 83 15 (by omega), u2 83 15 (by omega), eB, hw_ne (by omega), hw_eq]; rfl
      · rw [fx 11 4 (by omega) (by omega), egx, hw_ne (by omega), k2]; exact z3
      · rw [v2 83 24 (by omega), u2 83 24 (by omega), eB, hw_eq]
      · obtain ⟨c1, A, B, C, ⟨c2, c3, c4⟩, ⟨c5, c6, c7⟩, c8, c9, c10⟩ := z9 i hi
        obtain ⟨n1, n2, n3, n4⟩ := v3 i hi
        have cc : ∀ c, 99 ≤ c → c ≤ 102 → gC c i = g' c i := fun c y3 y4 => by rw [u2 c i (by omega), fB c i (by omega)]
        have kk : ∀ c, c < 4 → gD (12 + c) i = hh (45 + c) i := fun c hc => by rw [fx (12 + c) i (by omega) (by omega), egx, hw_ne (by omega), k3 c i hc (by omega)]
        have mv : ∀ j, j < l2 → ∀ o v, PG hh g' j o v → PJ gD j o v := fun j hj o v z => by
          have kj := k4 j (by omega)
          refine ⟨⟨?_, ?_⟩, ?_⟩
          · rw [fx 16 j (by omega) (by omega), egx, hw_ne (by omega), kj.1]; exact z.1
          · rw [fx 17 j (by omega) (by omega), egx, hw_ne (by omega), kj.2]; exact z.2.1
          · unfold PM; rw [d97 j hj]; exact z.2.2
        have l1 := c9.lt
        have l3 := c10.lt
        refine ⟨?_, A, B, C, ⟨(kk 1 (by omega)).trans c2, (kk 2 (by omega)).trans c3, (kk 3 (by omega)).trans c4⟩, ⟨by rw [n2, cc 100 (by omega) (by omega)]; exact c5, by rw [n3, cc 101 (by omega) (by omega)]; exact c6, by rw [n4, cc 102 (by omega) (by omega)]; exact c7⟩, by omega, c9.ag (fun j _ y4 => mv j (by omega)), c10.ag (fun j _ y4 => mv j (by omega))⟩
        rw [n1, cc 99 (by omega) (by omega)]
        exact ((kk 0 (by omega)).trans c1).symm
  · obtain ⟨gx, egx⟩ : ∃ gx, gx = hw hh 41 1 0 := ⟨_, rfl⟩
    have gxf : ∀ c j, ¬ (c = 41 ∨ (44 ≤ c ∧ c ≤ 50)) → gx c j = h c j := fun c j z => by rw [egx, hw_ne (by omega)]; exact xh c j (by omega)
    obtain ⟨gz2, y1, y2, R2⟩ := two gx (fun c j z => gxf c j (by omega))
    rcases R2 with ⟨K2, p2, l2, g', w1, w2, w3, S2, w5⟩ | ⟨f2, g', f20, rfl, -, w1, w2, w3⟩
    · exact absurd (tf.2.2.2.2.1.symm.trans S2.1.2.2.2.2.1) f0
    refine ⟨r, gx, hw g' 83 15 0, ?_, ?_, hI.clr (fun c j y3 y4 => ?_) ?_ hw_eq⟩
    · rw [x_sound tf, bd_s, if_neg f0, if_pos rfl, bnd_s, bv_s, egx]
    · rw [y1, w1]
      unfold J_X12_law_86
      rw [bnd_s, if_pos rfl, hw_ne (by omega), w2]
    · unfold scr at y3
      unfold tpx at y4
      rw [hw_ne (by omega), w3 c j (by omega) (by omega), y2 c j (by omega) (by omega), hw_ne (by omega)]
      exact gxf c j (by omega)
    · rw [hw_ne (by omega), w3 41 1 (by omega) (by omega), y2 41 1 (by omega) (by omega), hw_ne (by omega), egx, hw_eq]
