/-! by program, but for the rows at the head: the constructors -/
section PREFIX
variable {sz : Bool} {M : Mth} {d K S pc : Nat} {loc : List (Option PV)} {st : List PV} {h : Hp} {Q : List Dsc → Hp → Prop} {pre tail tail' : List Dsc} {n i : Nat}
theorem lkp (hn : pre.length = n) {dd : Dsc} (ht : tail[i]? = some dd) : (pre ++ tail)[n + i]? = some dd := by rw [← hn, List.getElem?_append_right (by omega)]; rw [Nat.add_sub_cancel_left]; exact ht
theorem setp (hn : pre.length = n) (dd : Dsc) : (pre ++ tail).set (n + i) dd = pre ++ tail.set i dd := by
  subst hn
  induction pre with
  | nil => simp
  | cons a t ih => simp only [List.cons_append, List.length_cons, show t.length + 1 + i = (t.length + i) + 1 by omega, List.set_cons_succ, ih]
theorem szL_ap (a b : List Dsc) : szL (a ++ b) = szL a + szL b := by
  induction a with
  | nil => simp [szL]
  | cons x t ih => simp only [List.cons_append, szL, ih]; omega
theorem hS1_id {h : Hp} {c : Nat} (hz : h c = fun _ => 0) : hS1 h c (fun _ => 0) = h := by
  funext c' j
  unfold hS1
  split
  · rename_i e; rw [e, hz]
  · rfl
theorem p_newa {at_ : ArrayType} {kd m : Nat} {x : Int} (hn : pre.length = n) (hi : tail.length = i) (hz : ∀ c, n ≤ c → h c = fun _ => 0) (hb : n ≤ 200) (hdg : decode M.2.1 pc = .ok (.newarray at_, 2)) (hk : (kd = 0 ∧ newarray.typeOf at_ = .int) ∨ (kd = 1 ∧ newarray.typeOf at_ = .byte) ∨ (kd = 2 ∧ newarray.typeOf at_ = .boolean)) (ha : Cond.arrayClass (newarray.typeOf at_) ∈ WS) (hx : x = (m : Int)) (hm : m ≤ 100000 ∧ i < 200 ∧ i + 1 ≤ K ∧ szL tail + m ≤ S) (ht : tail ++ [.inr (kd, m)] = tail')
    (k : GoC sz M d (pre.length + K) (szL pre + S) (pc + 2) loc (.inr (n + i + 1) :: st) (pre ++ tail') h Q) : GoC sz M d (pre.length + K) (szL pre + S) pc loc (.inl x :: st) (pre ++ tail) h Q := by
  have hlen : (pre ++ tail).length = n + i := by rw [List.length_append, hn, hi]
  refine n_newa hdg hk ha hx hm.1 (by rw [List.length_append]; omega) (by rw [szL_ap]; omega) (by omega) ?_
  rw [hlen, hS1_id (hz _ (by omega)), List.append_assoc, ht]
  exact k
theorem p_newq {idx m : Nat} {x : Int} (hn : pre.length = n) (hi : tail.length = i) (hz : ∀ c, n ≤ c → h c = fun _ => 0) (hb : n ≤ 200) (hdg : decode M.2.1 pc = .ok (.anewarray idx, 3)) (hlk : Cond.classLink M.1.cls idx "NightCarts$Cart" ∈ WS) (hx : x = (m : Int)) (hm : m ≤ 100000 ∧ i < 200 ∧ i + 1 ≤ K ∧ szL tail + m ≤ S) (ht : tail ++ [.inr (3, m)] = tail')
    (k : GoC sz M d (pre.length + K) (szL pre + S) (pc + 3) loc (.inr (n + i + 1) :: st) (pre ++ tail') h Q) : GoC sz M d (pre.length + K) (szL pre + S) pc loc (.inl x :: st) (pre ++ tail) h Q := by
  have hlen : (pre ++ tail).length = n + i := by rw [List.length_append, hn, hi]
  refine n_newq hdg hlk hx hm.1 (by rw [List.length_append]; omega) (by rw [szL_ap]; omega) (by omega) ?_
  rw [hlen, hS1_id (hz _ (by omega)), List.append_assoc, ht]
  exact k
theorem p_new {idx ci N : Nat} {C : String} {T : u_T} {rs : List Nat} (hn : pre.length = n) (hi : tail.length = i) (hz : ∀ c, n ≤ c → h c = fun _ => 0) (hb : n ≤ 200) (hdg : decode M.2.1 pc = .ok (.new idx, 3)) (hcl : Cls ci C T N) (hlk : Cond.classLink M.1.cls idx C ∈ WS ∧ Cond.instantiable C N ∈ WS ∧ Cond.initialized C ∈ WS) (hdf : ∀ j, j < N → defaultValue (tyF ci j) = fV 0 (tyF ci j) 0 0) (hrs : ∀ j, j < N → rs.getD j 0 = 0) (hm : i < 200 ∧ i + 1 ≤ K ∧ szL tail + N ≤ S) (ht : tail ++ [.inl (ci, rs)] = tail')
    (k : GoC sz M d (pre.length + K) (szL pre + S) (pc + 3) loc (.inr (n + i + 1) :: st) (pre ++ tail') h Q) : GoC sz M d (pre.length + K) (szL pre + S) pc loc st (pre ++ tail) h Q := by
  have hlen : (pre ++ tail).length = n + i := by rw [List.length_append, hn, hi]
  refine n_new hdg hcl hlk hdf (by rw [List.length_append]; omega) (by rw [szL_ap]; omega) (by omega) rs hrs ?_
  rw [hlen, hS1_id (hz _ (by omega)), List.append_assoc, ht]
  exact k
theorem p_putF {idx ci kf r : Nat} {rs : List Nat} (hn : pre.length = n) (hdg : decode M.2.1 pc = .ok (.putfield idx, 3)) (hf : FLf M.1.cls idx ci kf) (hc : tail[i]? = some (.inl (ci, rs))) (hkl : kf < rs.length) (hnm : M.1.name = "<init>") (hty : (∃ t, tyF ci kf = .array t) ∨ ∃ n, tyF ci kf = .object n) (ht : tail.set i (.inl (ci, rs.set kf r)) = tail') (k : GoC sz M d K S (pc + 3) loc st (pre ++ tail') h Q) : GoC sz M d K S pc loc (.inr r :: .inr (n + i + 1) :: st) (pre ++ tail) h Q := by
  refine n_putF hdg hf (lkp hn hc) hkl hnm hty ?_
  rw [setp hn, ht]
  exact k
theorem p_callI {M' : Mth} {d' idx m r mc ms : Nat} {av : List PV} {h' : Hp} {lay2 : List Dsc} (hdg : decode M.2.1 pc = .ok (.invokespecial idx, 3)) (hlk : Cond.methodLink M.1.cls idx M'.1 ∈ WS ∨ ∃ host, Cond.methodLinkNest M.1.cls idx M'.1 host ∈ NW) (hcb : CBi M' m) (hav : av.length = m) (hst : st.length ≤ 8) (hd : d' + 1 ≤ d) (hK : tail.length + mc ≤ K ∧ szL tail + ms ≤ S) (hrun : RunsC true M' d' mc ms (.inr (r + 1) :: av) lay2 h (fun l2 h2 => l2 = pre ++ tail' ∧ h2 = h')) (he : lay2 = pre ++ tail) (hs : tail'.length = tail.length + mc ∧ szL tail' = szL tail + ms)
    (k : GoC sz M d (pre.length + K) (szL pre + S) (pc + 3) loc st (pre ++ tail') h' Q) : GoC sz M d (pre.length + K) (szL pre + S) pc loc (av.reverse ++ .inr (r + 1) :: st) (pre ++ tail) h Q := by
  subst he
  refine n_callI hdg hlk hcb hav hst hd (by rw [List.length_append]; omega) (by rw [szL_ap]; omega) hrun (fun l2 h2 hq => ?_) (fun l2 h2 hq => ?_)
  · obtain ⟨rfl, rfl⟩ := hq
    simp only [List.length_append, szL_ap, hs.1, hs.2]
    constructor <;> omega
  · obtain ⟨rfl, rfl⟩ := hq
    exact k
theorem p_getR {idx ci kf r : Nat} {rs : List Nat} (hn : pre.length = n) (hdg : decode M.2.1 pc = .ok (.getfield idx, 3)) (hf : FLk M.1.cls idx ci kf) (hc : tail[i]? = some (.inl (ci, rs))) (hty : ¬ tyF ci kf = .int ∧ ¬ tyF ci kf = .boolean) (hr : rs.getD kf 0 = r) (hb : r ≤ 1000) (k : GoC sz M d K S (pc + 3) loc (.inr r :: st) (pre ++ tail) h Q) : GoC sz M d K S pc loc (.inr (n + i + 1) :: st) (pre ++ tail) h Q := by
  intro p l e R s m args below meth cd b D cA k0 z H locs ls Z hcx hR hS hL hs hh hF
  obtain ⟨x1, x2, x3, x4, x5, x6, x7, x8, x9, x10, x11, x12, x13, x14, x15⟩ := id hcx
  obtain ⟨C, T, N, ⟨h1, h2, h3, h4, rfl⟩, hk, hl, -⟩ := hf
  have k2 := k p l e R s m args below meth cd b D cA k0 z H locs ls Z hcx hR hS hL (hs.tl.cons hb) hh hF
  rw [List.map_cons] at k2
  rw [List.map_cons, cV_s]
  refine va_get x1 x2 x6 h2 x5 x8 hR.1 (n + i) (wd_get (lkp hn hc)) h1 kf hk (x6 _ hl) (fun _ q => q) ?_ hdg k2
  rw [List.getElem?_map, List.getElem?_range hk]
  show some (fV b (tyF ci kf) (h (n + i) kf) (rs.getD kf 0)) = some (va_rf (cR b r))
  rw [hr]
  congr 1
  unfold fV
  split
  · rename_i q; exact absurd q hty.1
  · rename_i q; exact absurd q hty.2
  · rfl
theorem p_iincC {j : Nat} {c x v : Int} (hdg : decode M.2.1 pc = .ok (.iinc j c, 3)) (hl : loc[j]? = some (some (.inl x))) (hj : j < M.2.2.1) (hv : w32 (x + c) = v) (k : GoC sz M d K S (pc + 3) (loc.set j (some (.inl v))) st (pre ++ tail) h Q) : GoC sz M d K S pc loc st (pre ++ tail) h Q := by
  subst hv
  exact n_iinc hdg hl hj k
end PREFIX
theorem ff_X0_9 : FLf RX0 9 0 0 := ⟨RX0, TX0, 5, cl0, by decide, (inB1 146 rfl rfl), rfl, rfl⟩
theorem ff_X0_15 : FLf RX0 15 0 1 := ⟨RX0, TX0, 5, cl0, by decide, (inB1 147 rfl rfl), rfl, rfl⟩
theorem ff_X0_18 : FLf RX0 18 0 2 := ⟨RX0, TX0, 5, cl0, by decide, (inB1 148 rfl rfl), rfl, rfl⟩
theorem ff_X1_9 : FLf RX1 9 1 0 := ⟨RX1, TX1, 13, cl1, by decide, (inB1 36 rfl rfl), rfl, rfl⟩
theorem ff_X1_15 : FLf RX1 15 1 1 := ⟨RX1, TX1, 13, cl1, by decide, (inB1 37 rfl rfl), rfl, rfl⟩
theorem ff_X1_18 : FLf RX1 18 1 2 := ⟨RX1, TX1, 13, cl1, by decide, (inB1 38 rfl rfl), rfl, rfl⟩
theorem ff_X1_21 : FLf RX1 21 1 3 := ⟨RX1, TX1, 13, cl1, by decide, (inB1 39 rfl rfl), rfl, rfl⟩
theorem ff_X1_24 : FLf RX1 24 1 8 := ⟨RX1, TX1, 13, cl1, by decide, (inB1 44 rfl rfl), rfl, rfl⟩
theorem ff_X10_9 : FLf RX10 9 10 0 := ⟨RX10, TX10, 6, cl10, by decide, (inB1 169 rfl rfl), rfl, rfl⟩
theorem ff_X11_24 : FLf RX11 24 11 0 := ⟨RX11, TX11, 12, cl11, by decide, (inB2 125 rfl rfl), rfl, rfl⟩
theorem ff_X11_28 : FLf RX11 28 11 1 := ⟨RX11, TX11, 12, cl11, by decide, (inB2 126 rfl rfl), rfl, rfl⟩
theorem ff_X11_32 : FLf RX11 32 11 2 := ⟨RX11, TX11, 12, cl11, by decide, (inB2 127 rfl rfl), rfl, rfl⟩
theorem ff_X11_36 : FLf RX11 36 11 3 := ⟨RX11, TX11, 12, cl11, by decide, (inB2 128 rfl rfl), rfl, rfl⟩
theorem ff_X11_43 : FLf RX11 43 11 4 := ⟨RX11, TX11, 12, cl11, by decide, (inB2 129 rfl rfl), rfl, rfl⟩
theorem ff_X11_47 : FLf RX11 47 11 5 := ⟨RX11, TX11, 12, cl11, by decide, (inB2 130 rfl rfl), rfl, rfl⟩
theorem ff_X11_51 : FLf RX11 51 11 6 := ⟨RX11, TX11, 12, cl11, by decide, (inB2 131 rfl rfl), rfl, rfl⟩
theorem ff_X11_60 : FLf RX11 60 11 7 := ⟨RX11, TX11, 12, cl11, by decide, (inB2 132 rfl rfl), rfl, rfl⟩
theorem ff_X11_69 : FLf RX11 69 11 8 := ⟨RX11, TX11, 12, cl11, by decide, (inB2 133 rfl rfl), rfl, rfl⟩
theorem ff_X11_78 : FLf RX11 78 11 9 := ⟨RX11, TX11, 12, cl11, by decide, (inB2 134 rfl rfl), rfl, rfl⟩
theorem ff_X11_85 : FLf RX11 85 11 10 := ⟨RX11, TX11, 12, cl11, by decide, (inB2 135 rfl rfl), rfl, rfl⟩
theorem ff_X11_92 : FLf RX11 92 11 11 := ⟨RX11, TX11, 12, cl11, by decide, (inB2 136 rfl rfl), rfl, rfl⟩
theorem ff_X12_7 : FLf RX12 7 12 0 := ⟨RX12, TX12, 59, cl12, by decide, (inB6 168 rfl rfl), rfl, rfl⟩
theorem ff_X12_13 : FLf RX12 13 12 1 := ⟨RX12, TX12, 59, cl12, by decide, (inB6 169 rfl rfl), rfl, rfl⟩
theorem ff_X12_16 : FLf RX12 16 12 2 := ⟨RX12, TX12, 59, cl12, by decide, (inB6 170 rfl rfl), rfl, rfl⟩
theorem ff_X12_19 : FLf RX12 19 12 3 := ⟨RX12, TX12, 59, cl12, by decide, (inB6 171 rfl rfl), rfl, rfl⟩
theorem ff_X12_22 : FLf RX12 22 12 4 := ⟨RX12, TX12, 59, cl12, by decide, (inB6 172 rfl rfl), rfl, rfl⟩
theorem ff_X12_25 : FLf RX12 25 12 5 := ⟨RX12, TX12, 59, cl12, by decide, (inB6 173 rfl rfl), rfl, rfl⟩
theorem ff_X12_28 : FLf RX12 28 12 6 := ⟨RX12, TX12, 59, cl12, by decide, (inB6 174 rfl rfl), rfl, rfl⟩
theorem ff_X12_31 : FLf RX12 31 12 7 := ⟨RX12, TX12, 59, cl12, by decide, (inB6 175 rfl rfl), rfl, rfl⟩
theorem ff_X12_34 : FLf RX12 34 12 8 := ⟨RX12, TX12, 59, cl12, by decide, (inB6 176 rfl rfl), rfl, rfl⟩
theorem ff_X12_37 : FLf RX12 37 12 9 := ⟨RX12, TX12, 59, cl12, by decide, (inB6 177 rfl rfl), rfl, rfl⟩
theorem ff_X12_40 : FLf RX12 40 12 10 := ⟨RX12, TX12, 59, cl12, by decide, (inB6 178 rfl rfl), rfl, rfl⟩
theorem ff_X12_43 : FLf RX12 43 12 11 := ⟨RX12, TX12, 59, cl12, by decide, (inB6 179 rfl rfl), rfl, rfl⟩
theorem ff_X12_46 : FLf RX12 46 12 14 := ⟨RX12, TX12, 59, cl12, by decide, (inB6 182 rfl rfl), rfl, rfl⟩
theorem ff_X12_50 : FLf RX12 50 12 25 := ⟨RX12, TX12, 59, cl12, by decide, (inB6 193 rfl rfl), rfl, rfl⟩
theorem ff_X12_53 : FLf RX12 53 12 26 := ⟨RX12, TX12, 59, cl12, by decide, (inB6 194 rfl rfl), rfl, rfl⟩
theorem ff_X12_56 : FLf RX12 56 12 27 := ⟨RX12, TX12, 59, cl12, by decide, (inB6 195 rfl rfl), rfl, rfl⟩
theorem ff_X12_59 : FLf RX12 59 12 28 := ⟨RX12, TX12, 59, cl12, by decide, (inB6 196 rfl rfl), rfl, rfl⟩
theorem ff_X12_62 : FLf RX12 62 12 29 := ⟨RX12, TX12, 59, cl12, by decide, (inB6 197 rfl rfl), rfl, rfl⟩
theorem ff_X12_65 : FLf RX12 65 12 30 := ⟨RX12, TX12, 59, cl12, by decide, (inB6 198 rfl rfl), rfl, rfl⟩
theorem ff_X12_68 : FLf RX12 68 12 31 := ⟨RX12, TX12, 59, cl12, by decide, (inB6 199 rfl rfl), rfl, rfl⟩
theorem ff_X12_71 : FLf RX12 71 12 32 := ⟨RX12, TX12, 59, cl12, by decide, (inB6 200 rfl rfl), rfl, rfl⟩
theorem ff_X12_74 : FLf RX12 74 12 33 := ⟨RX12, TX12, 59, cl12, by decide, (inB6 201 rfl rfl), rfl, rfl⟩
theorem ff_X12_77 : FLf RX12 77 12 34 := ⟨RX12, TX12, 59, cl12, by decide, (inB6 202 rfl rfl), rfl, rfl⟩
theorem ff_X12_80 : FLf RX12 80 12 35 := ⟨RX12, TX12, 59, cl12, by decide, (inB6 203 rfl rfl), rfl, rfl⟩
theorem ff_X12_83 : FLf RX12 83 12 36 := ⟨RX12, TX12, 59, cl12, by decide, (inB6 204 rfl rfl), rfl, rfl⟩
theorem ff_X12_86 : FLf RX12 86 12 37 := ⟨RX12, TX12, 59, cl12, by decide, (inB6 205 rfl rfl), rfl, rfl⟩
theorem ff_X12_89 : FLf RX12 89 12 38 := ⟨RX12, TX12, 59, cl12, by decide, (inB6 206 rfl rfl), rfl, rfl⟩
theorem ff_X12_92 : FLf RX12 92 12 39 := ⟨RX12, TX12, 59, cl12, by decide, (inB6 207 rfl rfl), rfl, rfl⟩
theorem ff_X12_95 : FLf RX12 95 12 40 := ⟨RX12, TX12, 59, cl12, by decide, (inB6 208 rfl rfl), rfl, rfl⟩
theorem ff_X12_98 : FLf RX12 98 12 42 := ⟨RX12, TX12, 59, cl12, by decide, (inB6 210 rfl rfl), rfl, rfl⟩
theorem ff_X12_101 : FLf RX12 101 12 43 := ⟨RX12, TX12, 59, cl12, by decide, (inB6 211 rfl rfl), rfl, rfl⟩
theorem ff_X12_104 : FLf RX12 104 12 44 := ⟨RX12, TX12, 59, cl12, by decide, (inB6 212 rfl rfl), rfl, rfl⟩
theorem ff_X12_107 : FLf RX12 107 12 45 := ⟨RX12, TX12, 59, cl12, by decide, (inB6 213 rfl rfl), rfl, rfl⟩
theorem ff_X12_110 : FLf RX12 110 12 46 := ⟨RX12, TX12, 59, cl12, by decide, (inB6 214 rfl rfl), rfl, rfl⟩
theorem ff_X12_113 : FLf RX12 113 12 52 := ⟨RX12, TX12, 59, cl12, by decide, (inB6 220 rfl rfl), rfl, rfl⟩
theorem ff_X12_116 : FLf RX12 116 12 53 := ⟨RX12, TX12, 59, cl12, by decide, (inB6 221 rfl rfl), rfl, rfl⟩
theorem ff_X12_119 : FLf RX12 119 12 54 := ⟨RX12, TX12, 59, cl12, by decide, (inB6 222 rfl rfl), rfl, rfl⟩
theorem ff_X12_122 : FLf RX12 122 12 55 := ⟨RX12, TX12, 59, cl12, by decide, (inB6 223 rfl rfl), rfl, rfl⟩
theorem ff_X12_125 : FLf RX12 125 12 56 := ⟨RX12, TX12, 59, cl12, by decide, (inB6 224 rfl rfl), rfl, rfl⟩
theorem ff_X12_128 : FLf RX12 128 12 57 := ⟨RX12, TX12, 59, cl12, by decide, (inB6 225 rfl rfl), rfl, rfl⟩
theorem ff_X2_9 : FLf RX2 9 2 0 := ⟨RX2, TX2, 12, cl2, by decide, (inB1 102 rfl rfl), rfl, rfl⟩
theorem ff_X2_15 : FLf RX2 15 2 1 := ⟨RX2, TX2, 12, cl2, by decide, (inB1 103 rfl rfl), rfl, rfl⟩
theorem ff_X2_18 : FLf RX2 18 2 2 := ⟨RX2, TX2, 12, cl2, by decide, (inB1 104 rfl rfl), rfl, rfl⟩
theorem ff_X2_21 : FLf RX2 21 2 3 := ⟨RX2, TX2, 12, cl2, by decide, (inB1 105 rfl rfl), rfl, rfl⟩
theorem ff_X2_24 : FLf RX2 24 2 5 := ⟨RX2, TX2, 12, cl2, by decide, (inB1 107 rfl rfl), rfl, rfl⟩
theorem ff_X2_27 : FLf RX2 27 2 6 := ⟨RX2, TX2, 12, cl2, by decide, (inB1 108 rfl rfl), rfl, rfl⟩
theorem ff_X2_30 : FLf RX2 30 2 8 := ⟨RX2, TX2, 12, cl2, by decide, (inB1 110 rfl rfl), rfl, rfl⟩
theorem ff_X2_33 : FLf RX2 33 2 9 := ⟨RX2, TX2, 12, cl2, by decide, (inB1 111 rfl rfl), rfl, rfl⟩
theorem ff_X3_12 : FLf RX3 12 3 0 := ⟨RX3, TX3, 1, cl3, by decide, (inB1 196 rfl rfl), rfl, rfl⟩
theorem ff_X4_9 : FLf RX4 9 4 0 := ⟨RX4, TX4, 6, cl4, by decide, (inB2 106 rfl rfl), rfl, rfl⟩
theorem ff_X4_15 : FLf RX4 15 4 1 := ⟨RX4, TX4, 6, cl4, by decide, (inB2 107 rfl rfl), rfl, rfl⟩
theorem ff_X4_18 : FLf RX4 18 4 2 := ⟨RX4, TX4, 6, cl4, by decide, (inB2 108 rfl rfl), rfl, rfl⟩
theorem ff_X4_21 : FLf RX4 21 4 3 := ⟨RX4, TX4, 6, cl4, by decide, (inB2 109 rfl rfl), rfl, rfl⟩
theorem ff_X5_11 : FLf RX5 11 5 3 := ⟨RX5, TX5, 16, cl5, by decide, (inB1 210 rfl rfl), rfl, rfl⟩
theorem ff_X5_19 : FLf RX5 19 5 4 := ⟨RX5, TX5, 16, cl5, by decide, (inB1 211 rfl rfl), rfl, rfl⟩
theorem ff_X5_23 : FLf RX5 23 5 5 := ⟨RX5, TX5, 16, cl5, by decide, (inB1 212 rfl rfl), rfl, rfl⟩
theorem ff_X5_26 : FLf RX5 26 5 6 := ⟨RX5, TX5, 16, cl5, by decide, (inB1 213 rfl rfl), rfl, rfl⟩
theorem ff_X5_29 : FLf RX5 29 5 7 := ⟨RX5, TX5, 16, cl5, by decide, (inB1 214 rfl rfl), rfl, rfl⟩
theorem ff_X5_32 : FLf RX5 32 5 8 := ⟨RX5, TX5, 16, cl5, by decide, (inB1 215 rfl rfl), rfl, rfl⟩
theorem ff_X5_35 : FLf RX5 35 5 9 := ⟨RX5, TX5, 16, cl5, by decide, (inB1 216 rfl rfl), rfl, rfl⟩
theorem ff_X5_38 : FLf RX5 38 5 0 := ⟨RX5, TX5, 16, cl5, by decide, (inB1 207 rfl rfl), rfl, rfl⟩
theorem ff_X5_42 : FLf RX5 42 5 1 := ⟨RX5, TX5, 16, cl5, by decide, (inB1 208 rfl rfl), rfl, rfl⟩
theorem ff_X5_46 : FLf RX5 46 5 2 := ⟨RX5, TX5, 16, cl5, by decide, (inB1 209 rfl rfl), rfl, rfl⟩
theorem ff_X6_9 : FLf RX6 9 6 0 := ⟨RX6, TX6, 7, cl6, by decide, (inB2 78 rfl rfl), rfl, rfl⟩
theorem ff_X6_15 : FLf RX6 15 6 1 := ⟨RX6, TX6, 7, cl6, by decide, (inB2 79 rfl rfl), rfl, rfl⟩
theorem ff_X6_18 : FLf RX6 18 6 2 := ⟨RX6, TX6, 7, cl6, by decide, (inB2 80 rfl rfl), rfl, rfl⟩
theorem ff_X6_21 : FLf RX6 21 6 3 := ⟨RX6, TX6, 7, cl6, by decide, (inB2 81 rfl rfl), rfl, rfl⟩
theorem ff_X7_11 : FLf RX7 11 7 0 := ⟨RX7, TX7, 4, cl7, by decide, (inB1 83 rfl rfl), rfl, rfl⟩
theorem ff_X7_15 : FLf RX7 15 7 1 := ⟨RX7, TX7, 4, cl7, by decide, (inB1 84 rfl rfl), rfl, rfl⟩
theorem ff_X7_18 : FLf RX7 18 7 2 := ⟨RX7, TX7, 4, cl7, by decide, (inB1 85 rfl rfl), rfl, rfl⟩
theorem ff_X8_11 : FLf RX8 11 8 1 := ⟨RX8, TX8, 5, cl8, by decide, (inB2 23 rfl rfl), rfl, rfl⟩
theorem ff_X8_15 : FLf RX8 15 8 2 := ⟨RX8, TX8, 5, cl8, by decide, (inB2 24 rfl rfl), rfl, rfl⟩
theorem ff_X8_18 : FLf RX8 18 8 3 := ⟨RX8, TX8, 5, cl8, by decide, (inB2 25 rfl rfl), rfl, rfl⟩
theorem ff_X8_21 : FLf RX8 21 8 0 := ⟨RX8, TX8, 5, cl8, by decide, (inB2 22 rfl rfl), rfl, rfl⟩
theorem ff_X9_9 : FLf RX9 9 9 1 := ⟨RX9, TX9, 9, cl9, by decide, (inB2 45 rfl rfl), rfl, rfl⟩
theorem ff_X9_15 : FLf RX9 15 9 2 := ⟨RX9, TX9, 9, cl9, by decide, (inB2 46 rfl rfl), rfl, rfl⟩
theorem ff_X9_18 : FLf RX9 18 9 3 := ⟨RX9, TX9, 9, cl9, by decide, (inB2 47 rfl rfl), rfl, rfl⟩
theorem ff_X9_21 : FLf RX9 21 9 0 := ⟨RX9, TX9, 9, cl9, by decide, (inB2 44 rfl rfl), rfl, rfl⟩
theorem nw_L_7 : Cond.classLink RL 7 RX11 ∈ WS ∧ Cond.instantiable RX11 12 ∈ WS ∧ Cond.initialized RX11 ∈ WS := ⟨(inB1 22 rfl rfl), (inB1 23 rfl rfl), in_X11⟩
theorem nw_L_10 : Cond.classLink RL 10 RX12 ∈ WS ∧ Cond.instantiable RX12 59 ∈ WS ∧ Cond.initialized RX12 ∈ WS := ⟨(inB6 147 rfl rfl), (inB6 148 rfl rfl), in_X12⟩
theorem nw_X11_7 : Cond.classLink RX11 7 RX1 ∈ WS ∧ Cond.instantiable RX1 13 ∈ WS ∧ Cond.initialized RX1 ∈ WS := ⟨(inB1 30 rfl rfl), (inB1 31 rfl rfl), in_X1⟩
theorem nw_X11_10 : Cond.classLink RX11 10 RX7 ∈ WS ∧ Cond.instantiable RX7 4 ∈ WS ∧ Cond.initialized RX7 ∈ WS := ⟨(inB1 77 rfl rfl), (inB1 78 rfl rfl), in_X7⟩
theorem nw_X11_13 : Cond.classLink RX11 13 RX2 ∈ WS ∧ Cond.instantiable RX2 12 ∈ WS ∧ Cond.initialized RX2 ∈ WS := ⟨(inB1 96 rfl rfl), (inB1 97 rfl rfl), in_X2⟩
theorem nw_X11_18 : Cond.classLink RX11 18 RX0 ∈ WS ∧ Cond.instantiable RX0 5 ∈ WS ∧ Cond.initialized RX0 ∈ WS := ⟨(inB1 139 rfl rfl), (inB1 141 rfl rfl), in_X0⟩
theorem nw_X11_21 : Cond.classLink RX11 21 RX10 ∈ WS ∧ Cond.instantiable RX10 6 ∈ WS ∧ Cond.initialized RX10 ∈ WS := ⟨(inB1 163 rfl rfl), (inB1 164 rfl rfl), in_X10⟩
theorem nw_X11_40 : Cond.classLink RX11 40 RX3 ∈ WS ∧ Cond.instantiable RX3 1 ∈ WS ∧ Cond.initialized RX3 ∈ WS := ⟨(inB1 188 rfl rfl), (inB1 189 rfl rfl), in_X3⟩
theorem nw_X11_55 : Cond.classLink RX11 55 RX5 ∈ WS ∧ Cond.instantiable RX5 16 ∈ WS ∧ Cond.initialized RX5 ∈ WS := ⟨(inB1 200 rfl rfl), (inB1 201 rfl rfl), in_X5⟩
theorem nw_X11_64 : Cond.classLink RX11 64 RX8 ∈ WS ∧ Cond.instantiable RX8 5 ∈ WS ∧ Cond.initialized RX8 ∈ WS := ⟨(inB2 16 rfl rfl), (inB2 17 rfl rfl), in_X8⟩
theorem nw_X11_73 : Cond.classLink RX11 73 RX9 ∈ WS ∧ Cond.instantiable RX9 9 ∈ WS ∧ Cond.initialized RX9 ∈ WS := ⟨(inB2 38 rfl rfl), (inB2 39 rfl rfl), in_X9⟩
theorem nw_X11_82 : Cond.classLink RX11 82 RX6 ∈ WS ∧ Cond.instantiable RX6 7 ∈ WS ∧ Cond.initialized RX6 ∈ WS := ⟨(inB2 72 rfl rfl), (inB2 73 rfl rfl), in_X6⟩
theorem nw_X11_89 : Cond.classLink RX11 89 RX4 ∈ WS ∧ Cond.instantiable RX4 6 ∈ WS ∧ Cond.initialized RX4 ∈ WS := ⟨(inB2 100 rfl rfl), (inB2 101 rfl rfl), in_X4⟩
theorem nw_X3_9 : Cond.classLink RX3 9 RX2 ∈ WS ∧ Cond.instantiable RX2 12 ∈ WS ∧ Cond.initialized RX2 ∈ WS := ⟨(inB1 194 rfl rfl), (inB1 97 rfl rfl), in_X2⟩
theorem df_0 : ∀ j, j < 5 → defaultValue (tyF 0 j) = fV 0 (tyF 0 j) 0 0 := by decide +kernel
theorem zr_0 : ∀ j, j < 5 → ([0, 0, 0, 0, 0] : List Nat).getD j 0 = 0 := by decide +kernel
theorem df_1 : ∀ j, j < 13 → defaultValue (tyF 1 j) = fV 0 (tyF 1 j) 0 0 := by decide +kernel
theorem zr_1 : ∀ j, j < 13 → ([0, 0, 0, 0, 0, 0, 0, 0, 0, 0, 0, 0, 0] : List Nat).getD j 0 = 0 := by decide +kernel
theorem df_2 : ∀ j, j < 12 → defaultValue (tyF 2 j) = fV 0 (tyF 2 j) 0 0 := by decide +kernel
theorem zr_2 : ∀ j, j < 12 → ([0, 0, 0, 0, 0, 0, 0, 0, 0, 0, 0, 0] : List Nat).getD j 0 = 0 := by decide +kernel
theorem df_3 : ∀ j, j < 1 → defaultValue (tyF 3 j) = fV 0 (tyF 3 j) 0 0 := by decide +kernel
theorem zr_3 : ∀ j, j < 1 → ([0] : List Nat).getD j 0 = 0 := by decide +kernel
theorem df_4 : ∀ j, j < 6 → defaultValue (tyF 4 j) = fV 0 (tyF 4 j) 0 0 := by decide +kernel
theorem zr_4 : ∀ j, j < 6 → ([0, 0, 0, 0, 0, 0] : List Nat).getD j 0 = 0 := by decide +kernel
theorem df_5 : ∀ j, j < 16 → defaultValue (tyF 5 j) = fV 0 (tyF 5 j) 0 0 := by decide +kernel
theorem zr_5 : ∀ j, j < 16 → ([0, 0, 0, 0, 0, 0, 0, 0, 0, 0, 0, 0, 0, 0, 0, 0] : List Nat).getD j 0 = 0 := by decide +kernel
theorem df_6 : ∀ j, j < 7 → defaultValue (tyF 6 j) = fV 0 (tyF 6 j) 0 0 := by decide +kernel
theorem zr_6 : ∀ j, j < 7 → ([0, 0, 0, 0, 0, 0, 0] : List Nat).getD j 0 = 0 := by decide +kernel
theorem df_7 : ∀ j, j < 4 → defaultValue (tyF 7 j) = fV 0 (tyF 7 j) 0 0 := by decide +kernel
theorem zr_7 : ∀ j, j < 4 → ([0, 0, 0, 0] : List Nat).getD j 0 = 0 := by decide +kernel
theorem df_8 : ∀ j, j < 5 → defaultValue (tyF 8 j) = fV 0 (tyF 8 j) 0 0 := by decide +kernel
theorem zr_8 : ∀ j, j < 5 → ([0, 0, 0, 0, 0] : List Nat).getD j 0 = 0 := by decide +kernel
theorem df_9 : ∀ j, j < 9 → defaultValue (tyF 9 j) = fV 0 (tyF 9 j) 0 0 := by decide +kernel
theorem zr_9 : ∀ j, j < 9 → ([0, 0, 0, 0, 0, 0, 0, 0, 0] : List Nat).getD j 0 = 0 := by decide +kernel
theorem df_10 : ∀ j, j < 6 → defaultValue (tyF 10 j) = fV 0 (tyF 10 j) 0 0 := by decide +kernel
theorem zr_10 : ∀ j, j < 6 → ([0, 0, 0, 0, 0, 0] : List Nat).getD j 0 = 0 := by decide +kernel
theorem df_11 : ∀ j, j < 12 → defaultValue (tyF 11 j) = fV 0 (tyF 11 j) 0 0 := by decide +kernel
theorem zr_11 : ∀ j, j < 12 → ([0, 0, 0, 0, 0, 0, 0, 0, 0, 0, 0, 0] : List Nat).getD j 0 = 0 := by decide +kernel
theorem df_12 : ∀ j, j < 59 → defaultValue (tyF 12 j) = fV 0 (tyF 12 j) 0 0 := by decide +kernel
theorem zr_12 : ∀ j, j < 59 → ([0, 0, 0, 0, 0, 0, 0, 0, 0, 0, 0, 0, 0, 0, 0, 0, 0, 0, 0, 0, 0, 0, 0, 0, 0, 0, 0, 0, 0, 0, 0, 0, 0, 0, 0, 0, 0, 0, 0, 0, 0, 0, 0, 0, 0, 0, 0, 0, 0, 0, 0, 0, 0, 0, 0, 0, 0, 0, 0] : List Nat).getD j 0 = 0 := by decide +kernel
theorem wobj : Cond.instanceMethod objectInit ∈ WS ∧ Cond.code objectInit ⟨#[0xb1]⟩ 1 none ∈ WS := ⟨(inB1 28 rfl rfl), (inB1 29 rfl rfl)⟩
theorem wa_int : Cond.arrayClass .int ∈ WS := (inB1 76 rfl rfl)
theorem wa_byte : Cond.arrayClass .byte ∈ WS := (inB3 219 rfl rfl)
theorem wa_boolean : Cond.arrayClass .boolean ∈ WS := (inB1 162 rfl rfl)
theorem cq_X5_17 : Cond.classLink RX5 17 "NightCarts$Cart" ∈ WS := (inB1 206 rfl rfl)
theorem cq_X11_18 : Cond.classLink RX11 18 "NightCarts$Cart" ∈ WS := (inB1 139 rfl rfl)
theorem cbi_X10_init : CBi M_X10_init 0 := ⟨⟨(inB1 167 rfl rfl), in_X10, nh_X10.1, nh_X10.2, pd_2, by decide⟩, (inB1 166 rfl rfl), rfl, rfl⟩
theorem cbi_X1_init : CBi M_X1_init 0 := ⟨⟨(inB1 34 rfl rfl), in_X1, nh_X1.1, nh_X1.2, pd_2, by decide⟩, (inB1 33 rfl rfl), rfl, rfl⟩
theorem cbi_X7_init : CBi M_X7_init 0 := ⟨⟨(inB1 81 rfl rfl), in_X7, nh_X7.1, nh_X7.2, pd_2, by decide⟩, (inB1 80 rfl rfl), rfl, rfl⟩
theorem cbi_X2_init : CBi M_X2_init 0 := ⟨⟨(inB1 100 rfl rfl), in_X2, nh_X2.1, nh_X2.2, pd_2, by decide⟩, (inB1 99 rfl rfl), rfl, rfl⟩
theorem cbi_X0_init : CBi M_X0_init 0 := ⟨⟨(inB1 144 rfl rfl), in_X0, nh_X0.1, nh_X0.2, pd_2, by decide⟩, (inB1 143 rfl rfl), rfl, rfl⟩
theorem cbi_X3_init : CBi M_X3_init 0 := ⟨⟨(inB1 192 rfl rfl), in_X3, nh_X3.1, nh_X3.2, pd_2, by decide⟩, (inB1 191 rfl rfl), rfl, rfl⟩
theorem cbi_X5_init : CBi M_X5_init 3 := ⟨⟨(inB1 204 rfl rfl), in_X5, nh_X5.1, nh_X5.2, pd_25, by decide⟩, (inB1 203 rfl rfl), rfl, rfl⟩
theorem cbi_X8_init : CBi M_X8_init 1 := ⟨⟨(inB2 20 rfl rfl), in_X8, nh_X8.1, nh_X8.2, pd_28, by decide⟩, (inB2 19 rfl rfl), rfl, rfl⟩
theorem cbi_X9_init : CBi M_X9_init 1 := ⟨⟨(inB2 42 rfl rfl), in_X9, nh_X9.1, nh_X9.2, pd_23, by decide⟩, (inB2 41 rfl rfl), rfl, rfl⟩
theorem cbi_X6_init : CBi M_X6_init 0 := ⟨⟨(inB2 76 rfl rfl), in_X6, nh_X6.1, nh_X6.2, pd_2, by decide⟩, (inB2 75 rfl rfl), rfl, rfl⟩
theorem cbi_X4_init : CBi M_X4_init 0 := ⟨⟨(inB2 104 rfl rfl), in_X4, nh_X4.1, nh_X4.2, pd_2, by decide⟩, (inB2 103 rfl rfl), rfl, rfl⟩
theorem cbi_X11_init : CBi M_X11_init 0 := ⟨⟨(inB1 26 rfl rfl), in_X11, nh_X11.1, nh_X11.2, pd_2, by decide⟩, (inB1 25 rfl rfl), rfl, rfl⟩
theorem cbi_X12_init : CBi M_X12_init 0 := ⟨⟨(inB6 151 rfl rfl), in_X12, nh_X12.1, nh_X12.2, pd_2, by decide⟩, (inB6 150 rfl rfl), rfl, rfl⟩
set_option maxRecDepth 100000 in
theorem T_X10_init : Tab cX10_init [(0, .aload_n 0, 1), (1, .invokespecial 3, 3), (4, .aload_n 0, 1), (5, .sipush 260, 3), (8, .newarray .int, 2), (10, .putfield 9, 3), (13, .return_, 1)] := Tab.of (by decide +kernel)
set_option maxRecDepth 100000 in
theorem T_X1_init : Tab cX1_init [(0, .aload_n 0, 1), (1, .invokespecial 3, 3), (4, .aload_n 0, 1), (5, .bipush 14, 2), (7, .newarray .int, 2), (9, .putfield 9, 3), (12, .aload_n 0, 1), (13, .bipush 14, 2), (15, .newarray .int, 2), (17, .putfield 15, 3), (20, .aload_n 0, 1), (21, .bipush 14, 2), (23, .newarray .int, 2), (25, .putfield 18, 3), (28, .aload_n 0, 1), (29, .bipush 14, 2), (31, .newarray .int, 2), (33, .putfield 21, 3), (36, .aload_n 0, 1), (37, .bipush 14, 2), (39, .newarray .int, 2), (41, .putfield 24, 3), (44, .return_, 1)] := Tab.of (by decide +kernel)
set_option maxRecDepth 100000 in
theorem T_X7_init : Tab cX7_init [(0, .aload_n 0, 1), (1, .invokespecial 3, 3), (4, .aload_n 0, 1), (5, .sipush 196, 3), (8, .newarray .int, 2), (10, .putfield 11, 3), (13, .aload_n 0, 1), (14, .sipush 196, 3), (17, .newarray .int, 2), (19, .putfield 15, 3), (22, .aload_n 0, 1), (23, .sipush 196, 3), (26, .newarray .int, 2), (28, .putfield 18, 3), (31, .iconst 0, 1), (32, .istore_n 1, 1), (33, .iload_n 1, 1), (34, .sipush 196, 3), (37, .if_icmp .ge 28, 3), (40, .aload_n 0, 1), (41, .getfield 18, 3), (44, .iload_n 1, 1), (45, .iload_n 1, 1), (46, .bipush 15, 2), (48, .irem, 1), (49, .ifCond .ne 7, 3), (52, .iconst 0, 1), (53, .goto 5, 3), (56, .bipush (-2), 2), (58, .iastore, 1), (59, .iinc 1 1, 3), (62, .goto (-29), 3), (65, .return_, 1)] := Tab.of (by decide +kernel)
set_option maxRecDepth 100000 in
theorem T_X2_init : Tab cX2_init [(0, .aload_n 0, 1), (1, .invokespecial 3, 3), (4, .aload_n 0, 1), (5, .bipush 16, 2), (7, .newarray .int, 2), (9, .putfield 9, 3), (12, .aload_n 0, 1), (13, .bipush 16, 2), (15, .newarray .int, 2), (17, .putfield 15, 3), (20, .aload_n 0, 1), (21, .bipush 16, 2), (23, .newarray .int, 2), (25, .putfield 18, 3), (28, .aload_n 0, 1), (29, .bipush 16, 2), (31, .newarray .int, 2), (33, .putfield 21, 3), (36, .aload_n 0, 1), (37, .sipush 240, 3), (40, .newarray .int, 2), (42, .putfield 24, 3), (45, .aload_n 0, 1), (46, .sipush 240, 3), (49, .newarray .int, 2), (51, .putfield 27, 3), (54, .aload_n 0, 1), (55, .bipush 8, 2), (57, .newarray .int, 2), (59, .putfield 30, 3), (62, .aload_n 0, 1), (63, .bipush 64, 2), (65, .newarray .int, 2), (67, .putfield 33, 3), (70, .return_, 1)] := Tab.of (by decide +kernel)
set_option maxRecDepth 100000 in
theorem T_X0_init : Tab cX0_init [(0, .aload_n 0, 1), (1, .invokespecial 3, 3), (4, .aload_n 0, 1), (5, .bipush 16, 2), (7, .newarray .int, 2), (9, .putfield 9, 3), (12, .aload_n 0, 1), (13, .bipush 16, 2), (15, .newarray .int, 2), (17, .putfield 15, 3), (20, .aload_n 0, 1), (21, .bipush 16, 2), (23, .newarray .boolean, 2), (25, .putfield 18, 3), (28, .return_, 1)] := Tab.of (by decide +kernel)
set_option maxRecDepth 100000 in
theorem T_X3_init : Tab cX3_init [(0, .aload_n 0, 1), (1, .invokespecial 3, 3), (4, .aload_n 0, 1), (5, .new 9, 3), (8, .dup, 1), (9, .invokespecial 11, 3), (12, .putfield 12, 3), (15, .return_, 1)] := Tab.of (by decide +kernel)
set_option maxRecDepth 100000 in
theorem T_X5_init : Tab cX5_init [(0, .aload_n 0, 1), (1, .invokespecial 5, 3), (4, .aload_n 0, 1), (5, .bipush 14, 2), (7, .newarray .int, 2), (9, .putfield 11, 3), (12, .aload_n 0, 1), (13, .iconst 5, 1), (14, .anewarray 17, 3), (17, .putfield 19, 3), (20, .aload_n 0, 1), (21, .iconst 5, 1), (22, .newarray .int, 2), (24, .putfield 23, 3), (27, .aload_n 0, 1), (28, .iconst 5, 1), (29, .newarray .int, 2), (31, .putfield 26, 3), (34, .aload_n 0, 1), (35, .iconst 5, 1), (36, .newarray .int, 2), (38, .putfield 29, 3), (41, .aload_n 0, 1), (42, .iconst 5, 1), (43, .newarray .int, 2), (45, .putfield 32, 3), (48, .aload_n 0, 1), (49, .iconst 5, 1), (50, .newarray .int, 2), (52, .putfield 35, 3), (55, .aload_n 0, 1), (56, .aload_n 1, 1), (57, .putfield 38, 3), (60, .aload_n 0, 1), (61, .aload_n 2, 1), (62, .putfield 42, 3), (65, .aload_n 0, 1), (66, .aload_n 3, 1), (67, .putfield 46, 3), (70, .return_, 1)] := Tab.of (by decide +kernel)
set_option maxRecDepth 100000 in
theorem T_X8_init : Tab cX8_init [(0, .aload_n 0, 1), (1, .invokespecial 3, 3), (4, .aload_n 0, 1), (5, .bipush 8, 2), (7, .newarray .int, 2), (9, .putfield 11, 3), (12, .aload_n 0, 1), (13, .sipush 1024, 3), (16, .newarray .int, 2), (18, .putfield 15, 3), (21, .aload_n 0, 1), (22, .bipush 7, 2), (24, .newarray .int, 2), (26, .putfield 18, 3), (29, .aload_n 0, 1), (30, .aload_n 1, 1), (31, .putfield 21, 3), (34, .return_, 1)] := Tab.of (by decide +kernel)
set_option maxRecDepth 100000 in
theorem T_X9_init : Tab cX9_init [(0, .aload_n 0, 1), (1, .invokespecial 3, 3), (4, .aload_n 0, 1), (5, .bipush 8, 2), (7, .newarray .int, 2), (9, .putfield 9, 3), (12, .aload_n 0, 1), (13, .bipush 8, 2), (15, .newarray .int, 2), (17, .putfield 15, 3), (20, .aload_n 0, 1), (21, .bipush 14, 2), (23, .newarray .int, 2), (25, .putfield 18, 3), (28, .aload_n 0, 1), (29, .aload_n 1, 1), (30, .putfield 21, 3), (33, .return_, 1)] := Tab.of (by decide +kernel)
set_option maxRecDepth 100000 in
theorem T_X6_init : Tab cX6_init [(0, .aload_n 0, 1), (1, .invokespecial 3, 3), (4, .aload_n 0, 1), (5, .bipush 8, 2), (7, .newarray .int, 2), (9, .putfield 9, 3), (12, .aload_n 0, 1), (13, .bipush 8, 2), (15, .newarray .int, 2), (17, .putfield 15, 3), (20, .aload_n 0, 1), (21, .bipush 8, 2), (23, .newarray .int, 2), (25, .putfield 18, 3), (28, .aload_n 0, 1), (29, .iconst 3, 1), (30, .newarray .int, 2), (32, .putfield 21, 3), (35, .return_, 1)] := Tab.of (by decide +kernel)
set_option maxRecDepth 100000 in
theorem T_X4_init : Tab cX4_init [(0, .aload_n 0, 1), (1, .invokespecial 3, 3), (4, .aload_n 0, 1), (5, .bipush 6, 2), (7, .newarray .int, 2), (9, .putfield 9, 3), (12, .aload_n 0, 1), (13, .bipush 6, 2), (15, .newarray .int, 2), (17, .putfield 15, 3), (20, .aload_n 0, 1), (21, .bipush 6, 2), (23, .newarray .int, 2), (25, .putfield 18, 3), (28, .aload_n 0, 1), (29, .bipush 6, 2), (31, .newarray .int, 2), (33, .putfield 21, 3), (36, .return_, 1)] := Tab.of (by decide +kernel)
set_option maxRecDepth 100000 in
theorem T_X11_init : Tab cX11_init [(0, .aload_n 0, 1), (1, .invokespecial 1, 3), (4, .new 7, 3), (7, .dup, 1), (8, .invokespecial 9, 3), (11, .astore_n 1, 1), (12, .new 10, 3), (15, .dup, 1), (16, .invokespecial 12, 3), (19, .astore_n 2, 1), (20, .new 13, 3), (23, .dup, 1), (24, .invokespecial 15, 3), (27, .astore_n 3, 1), (28, .iconst 5, 1), (29, .anewarray 18, 3), (32, .astore 4, 2), (34, .iconst 0, 1), (35, .istore 5, 2), (37, .iload 5, 2), (39, .iconst 5, 1), (40, .if_icmp .ge 21, 3), (43, .aload 4, 2), (45, .iload 5, 2), (47, .new 18, 3), (50, .dup, 1), (51, .invokespecial 20, 3), (54, .aastore, 1), (55, .iinc 5 1, 3), (58, .goto (-21), 3), (61, .aload_n 0, 1), (62, .new 21, 3), (65, .dup, 1), (66, .invokespecial 23, 3), (69, .putfield 24, 3), (72, .aload_n 0, 1), (73, .aload_n 1, 1), (74, .putfield 28, 3), (77, .aload_n 0, 1), (78, .aload_n 2, 1), (79, .putfield 32, 3), (82, .aload_n 0, 1), (83, .aload_n 3, 1), (84, .putfield 36, 3), (87, .aload_n 0, 1), (88, .new 40, 3), (91, .dup, 1), (92, .invokespecial 42, 3), (95, .putfield 43, 3), (98, .aload_n 0, 1), (99, .aload 4, 2), (101, .putfield 47, 3), (104, .aload_n 0, 1), (105, .new 18, 3), (108, .dup, 1), (109, .invokespecial 20, 3), (112, .putfield 51, 3), (115, .aload_n 0, 1), (116, .new 55, 3), (119, .dup, 1), (120, .aload_n 1, 1), (121, .aload_n 2, 1), (122, .aload_n 3, 1), (123, .invokespecial 57, 3), (126, .putfield 60, 3), (129, .aload_n 0, 1), (130, .new 64, 3), (133, .dup, 1), (134, .aload_n 2, 1), (135, .invokespecial 66, 3), (138, .putfield 69, 3), (141, .aload_n 0, 1), (142, .new 73, 3), (145, .dup, 1), (146, .aload_n 1, 1), (147, .invokespecial 75, 3), (150, .putfield 78, 3), (153, .aload_n 0, 1), (154, .new 82, 3), (157, .dup, 1), (158, .invokespecial 84, 3), (161, .putfield 85, 3), (164, .aload_n 0, 1), (165, .new 89, 3), (168, .dup, 1), (169, .invokespecial 91, 3), (172, .putfield 92, 3), (175, .return_, 1)] := Tab.of (by decide +kernel)
set_option maxRecDepth 100000 in
theorem T_X12_init : Tab cX12_init [(0, .aload_n 0, 1), (1, .invokespecial 1, 3), (4, .aload_n 0, 1), (5, .bipush 17, 2), (7, .newarray .int, 2), (9, .putfield 7, 3), (12, .aload_n 0, 1), (13, .bipush 17, 2), (15, .newarray .int, 2), (17, .putfield 13, 3), (20, .aload_n 0, 1), (21, .bipush 17, 2), (23, .newarray .int, 2), (25, .putfield 16, 3), (28, .aload_n 0, 1), (29, .bipush 14, 2), (31, .newarray .int, 2), (33, .putfield 19, 3), (36, .aload_n 0, 1), (37, .bipush 14, 2), (39, .newarray .int, 2), (41, .putfield 22, 3), (44, .aload_n 0, 1), (45, .bipush 14, 2), (47, .newarray .int, 2), (49, .putfield 25, 3), (52, .aload_n 0, 1), (53, .sipush 196, 3), (56, .newarray .int, 2), (58, .putfield 28, 3), (61, .aload_n 0, 1), (62, .sipush 196, 3), (65, .newarray .int, 2), (67, .putfield 31, 3), (70, .aload_n 0, 1), (71, .iconst 5, 1), (72, .newarray .int, 2), (74, .putfield 34, 3), (77, .aload_n 0, 1), (78, .iconst 5, 1), (79, .newarray .int, 2), (81, .putfield 37, 3), (84, .aload_n 0, 1), (85, .bipush 80, 2), (87, .newarray .int, 2), (89, .putfield 40, 3), (92, .aload_n 0, 1), (93, .bipush 80, 2), (95, .newarray .int, 2), (97, .putfield 43, 3), (100, .aload_n 0, 1), (101, .sipush 260, 3), (104, .newarray .byte, 2), (106, .putfield 46, 3), (109, .aload_n 0, 1), (110, .sipush 260, 3), (113, .newarray .int, 2), (115, .putfield 50, 3), (118, .aload_n 0, 1), (119, .sipush 260, 3), (122, .newarray .int, 2), (124, .putfield 53, 3), (127, .aload_n 0, 1), (128, .bipush 16, 2), (130, .newarray .int, 2), (132, .putfield 56, 3), (135, .aload_n 0, 1), (136, .bipush 16, 2), (138, .newarray .int, 2), (140, .putfield 59, 3), (143, .aload_n 0, 1), (144, .bipush 16, 2), (146, .newarray .int, 2), (148, .putfield 62, 3), (151, .aload_n 0, 1), (152, .bipush 16, 2), (154, .newarray .int, 2), (156, .putfield 65, 3), (159, .aload_n 0, 1), (160, .sipush 260, 3), (163, .newarray .int, 2), (165, .putfield 68, 3), (168, .aload_n 0, 1), (169, .bipush 16, 2), (171, .newarray .int, 2), (173, .putfield 71, 3), (176, .aload_n 0, 1), (177, .bipush 16, 2), (179, .newarray .int, 2), (181, .putfield 74, 3), (184, .aload_n 0, 1), (185, .bipush 16, 2), (187, .newarray .int, 2), (189, .putfield 77, 3), (192, .aload_n 0, 1), (193, .bipush 16, 2), (195, .newarray .int, 2), (197, .putfield 80, 3), (200, .aload_n 0, 1), (201, .sipush 260, 3), (204, .newarray .int, 2), (206, .putfield 83, 3), (209, .aload_n 0, 1), (210, .bipush 8, 2), (212, .newarray .int, 2), (214, .putfield 86, 3), (217, .aload_n 0, 1), (218, .sipush 196, 3), (221, .newarray .int, 2), (223, .putfield 89, 3), (226, .aload_n 0, 1), (227, .bipush 16, 2), (229, .newarray .int, 2), (231, .putfield 92, 3), (234, .aload_n 0, 1), (235, .bipush 16, 2), (237, .newarray .int, 2), (239, .putfield 95, 3), (242, .aload_n 0, 1), (243, .iconst 5, 1), (244, .newarray .int, 2), (246, .putfield 98, 3), (249, .aload_n 0, 1), (250, .iconst 5, 1), (251, .newarray .int, 2), (253, .putfield 101, 3), (256, .aload_n 0, 1), (257, .iconst 5, 1), (258, .newarray .int, 2), (260, .putfield 104, 3), (263, .aload_n 0, 1), (264, .iconst 5, 1), (265, .newarray .int, 2), (267, .putfield 107, 3), (270, .aload_n 0, 1), (271, .iconst 5, 1), (272, .newarray .int, 2), (274, .putfield 110, 3), (277, .aload_n 0, 1), (278, .bipush 8, 2), (280, .newarray .int, 2), (282, .putfield 113, 3), (285, .aload_n 0, 1), (286, .bipush 8, 2), (288, .newarray .int, 2), (290, .putfield 116, 3), (293, .aload_n 0, 1), (294, .bipush 14, 2), (296, .newarray .int, 2), (298, .putfield 119, 3), (301, .aload_n 0, 1), (302, .bipush 14, 2), (304, .newarray .int, 2), (306, .putfield 122, 3), (309, .aload_n 0, 1), (310, .bipush 14, 2), (312, .newarray .int, 2), (314, .putfield 125, 3), (317, .aload_n 0, 1), (318, .iconst 3, 1), (319, .newarray .int, 2), (321, .putfield 128, 3), (324, .aload_n 0, 1), (325, .iconst (-1), 1), (326, .iconst (-1), 1), (327, .invokevirtual 131, 3), (330, .return_, 1)] := Tab.of (by decide +kernel)
theorem RunsC.to {sz : Bool} {M : Mth} {d mc ms : Nat} {av : List PV} {lay : List Dsc} {h : Hp} {Q Q2 : List Dsc → Hp → Prop} (hr : RunsC sz M d mc ms av lay h Q) (hq : ∀ l2 h2, Q l2 h2 → Q2 l2 h2) : RunsC sz M d mc ms av lay h Q2 := by
  intro l D cA b hh hav p e ha hc hk s m args below hf happ hP hT
  obtain ⟨k, o, h1, h2, h3, ⟨⟨lay2, h2', e1, e2, e3⟩, e4⟩, e5⟩ := hr l D cA b hh hav p e ha hc hk s m args below hf happ hP hT
  exact ⟨k, o, h1, h2, h3, ⟨⟨lay2, h2', e1, hq _ _ e2, e3⟩, e4⟩, e5⟩
set_option maxRecDepth 100000 in
set_option maxHeartbeats 4000000 in
theorem C_X10_init (pre : List Dsc) (n : Nat) (hn : pre.length = n) (hb : n ≤ 150) (h : Hp) (hz : ∀ c, n ≤ c → h c = fun _ => 0) : RunsC true M_X10_init 2 1 260 [.inr (n + 1)] (pre ++ [.inl (10, [0, 0, 0, 0, 0, 0])]) h (fun l2 h2 => l2 = pre ++ [.inl (10, [n + 1 + 1, 0, 0, 0, 0, 0]), .inr (0, 260)] ∧ h2 = h) := by
  have hb : n ≤ 200 := by omega
  refine RunsC.of rfl (Nat.le_of_ble_eq_true rfl) (fun l2 h2 hq => ?_) ?_
  · rw [hq.1]
    simp only [List.length_append, szL_ap]
    exact ⟨by simp only [List.length_cons, List.length_nil], by rw [Nat.add_assoc]; rfl⟩
  rw [List.length_append, szL_ap, Nat.add_assoc, Nat.add_assoc]
  show GoC true M_X10_init 2 (pre.length + 2) (szL pre + 266) 0 [some (.inr (n + 1))] [] (pre ++ [.inl (10, [0, 0, 0, 0, 0, 0])]) h _
  refine n_aload_n (T_X10_init 0 _ _ _ rfl) rfl ?_
  refine n_obj (r := n) (T_X10_init 1 _ _ _ rfl) ml_X10_3 wobj (Nat.le_of_ble_eq_true rfl) (by omega) ?_
  refine n_aload_n (T_X10_init 2 _ _ _ rfl) rfl ?_
  refine n_sipush (T_X10_init 3 _ _ _ rfl) (by decide) ?_
  refine p_newa (n := n) (i := 1) (kd := 0) (m := 260) hn rfl hz hb (T_X10_init 4 _ _ _ rfl) (Or.inl ⟨rfl, rfl⟩) wa_int rfl ⟨Nat.le_of_ble_eq_true rfl, Nat.le_of_ble_eq_true rfl, Nat.le_of_ble_eq_true rfl, Nat.le_of_ble_eq_true rfl⟩ (tail' := [.inl (10, [0, 0, 0, 0, 0, 0]), .inr (0, 260)]) rfl ?_
  refine p_putF (n := n) (i := 0) (r := n + 1 + 1) hn (T_X10_init 5 _ _ _ rfl) ff_X10_9 rfl (Nat.le_of_ble_eq_true rfl) rfl (Or.inl ⟨_, rfl⟩) (tail' := [.inl (10, [n + 1 + 1, 0, 0, 0, 0, 0]), .inr (0, 260)]) rfl ?_
  exact n_ret (T_X10_init 6 _ _ _ rfl) rfl ⟨rfl, rfl⟩
set_option maxRecDepth 100000 in
set_option maxHeartbeats 4000000 in
theorem C_X1_init (pre : List Dsc) (n : Nat) (hn : pre.length = n) (hb : n ≤ 150) (h : Hp) (hz : ∀ c, n ≤ c → h c = fun _ => 0) : RunsC true M_X1_init 2 5 70 [.inr (n + 1)] (pre ++ [.inl (1, [0, 0, 0, 0, 0, 0, 0, 0, 0, 0, 0, 0, 0])]) h (fun l2 h2 => l2 = pre ++ [.inl (1, [n + 1 + 1, n + 2 + 1, n + 3 + 1, n + 4 + 1, 0, 0, 0, 0, n + 5 + 1, 0, 0, 0, 0]), .inr (0, 14), .inr (0, 14), .inr (0, 14), .inr (0, 14), .inr (0, 14)] ∧ h2 = h) := by
  have hb : n ≤ 200 := by omega
  refine RunsC.of rfl (Nat.le_of_ble_eq_true rfl) (fun l2 h2 hq => ?_) ?_
  · rw [hq.1]
    simp only [List.length_append, szL_ap]
    exact ⟨by simp only [List.length_cons, List.length_nil], by rw [Nat.add_assoc]; rfl⟩
  rw [List.length_append, szL_ap, Nat.add_assoc, Nat.add_assoc]
  show GoC true M_X1_init 2 (pre.length + 6) (szL pre + 83) 0 [some (.inr (n + 1))] [] (pre ++ [.inl (1, [0, 0, 0, 0, 0, 0, 0, 0, 0, 0, 0, 0, 0])]) h _
  refine n_aload_n (T_X1_init 0 _ _ _ rfl) rfl ?_
  refine n_obj (r := n) (T_X1_init 1 _ _ _ rfl) ml_X1_3 wobj (Nat.le_of_ble_eq_true rfl) (by omega) ?_
  refine n_aload_n (T_X1_init 2 _ _ _ rfl) rfl ?_
  refine n_bipush (T_X1_init 3 _ _ _ rfl) (by decide) ?_
  refine p_newa (n := n) (i := 1) (kd := 0) (m := 14) hn rfl hz hb (T_X1_init 4 _ _ _ rfl) (Or.inl ⟨rfl, rfl⟩) wa_int rfl ⟨Nat.le_of_ble_eq_true rfl, Nat.le_of_ble_eq_true rfl, Nat.le_of_ble_eq_true rfl, Nat.le_of_ble_eq_true rfl⟩ (tail' := [.inl (1, [0, 0, 0, 0, 0, 0, 0, 0, 0, 0, 0, 0, 0]), .inr (0, 14)]) rfl ?_
  refine p_putF (n := n) (i := 0) (r := n + 1 + 1) hn (T_X1_init 5 _ _ _ rfl) ff_X1_9 rfl (Nat.le_of_ble_eq_true rfl) rfl (Or.inl ⟨_, rfl⟩) (tail' := [.inl (1, [n + 1 + 1, 0, 0, 0, 0, 0, 0, 0, 0, 0, 0, 0, 0]), .inr (0, 14)]) rfl ?_
  refine n_aload_n (T_X1_init 6 _ _ _ rfl) rfl ?_
  refine n_bipush (T_X1_init 7 _ _ _ rfl) (by decide) ?_
  refine p_newa (n := n) (i := 2) (kd := 0) (m := 14) hn rfl hz hb (T_X1_init 8 _ _ _ rfl) (Or.inl ⟨rfl, rfl⟩) wa_int rfl ⟨Nat.le_of_ble_eq_true rfl, Nat.le_of_ble_eq_true rfl, Nat.le_of_ble_eq_true rfl, Nat.le_of_ble_eq_true rfl⟩ (tail' := [.inl (1, [n + 1 + 1, 0, 0, 0, 0, 0, 0, 0, 0, 0, 0, 0, 0]), .inr (0, 14), .inr (0, 14)]) rfl ?_
  refine p_putF (n := n) (i := 0) (r := n + 2 + 1) hn (T_X1_init 9 _ _ _ rfl) ff_X1_15 rfl (Nat.le_of_ble_eq_true rfl) rfl (Or.inl ⟨_, rfl⟩) (tail' := [.inl (1, [n + 1 + 1, n + 2 + 1, 0, 0, 0, 0, 0, 0, 0, 0, 0, 0, 0]), .inr (0, 14), .inr (0, 14)]) rfl ?_
  refine n_aload_n (T_X1_init 10 _ _ _ rfl) rfl ?_
  refine n_bipush (T_X1_init 11 _ _ _ rfl) (by decide) ?_
  refine p_newa (n := n) (i := 3) (kd := 0) (m := 14) hn rfl hz hb (T_X1_init 12 _ _ _ rfl) (Or.inl ⟨rfl, rfl⟩) wa_int rfl ⟨Nat.le_of_ble_eq_true rfl, Nat.le_of_ble_eq_true rfl, Nat.le_of_ble_eq_true rfl, Nat.le_of_ble_eq_true rfl⟩ (tail' := [.inl (1, [n + 1 + 1, n + 2 + 1, 0, 0, 0, 0, 0, 0, 0, 0, 0, 0, 0]), .inr (0, 14), .inr (0, 14), .inr (0, 14)]) rfl ?_
  refine p_putF (n := n) (i := 0) (r := n + 3 + 1) hn (T_X1_init 13 _ _ _ rfl) ff_X1_18 rfl (Nat.le_of_ble_eq_true rfl) rfl (Or.inl ⟨_, rfl⟩) (tail' := [.inl (1, [n + 1 + 1, n + 2 + 1, n + 3 + 1, 0, 0, 0, 0, 0, 0, 0, 0, 0, 0]), .inr (0, 14), .inr (0, 14), .inr (0, 14)]) rfl ?_
  refine n_aload_n (T_X1_init 14 _ _ _ rfl) rfl ?_
  refine n_bipush (T_X1_init 15 _ _ _ rfl) (by decide) ?_
  refine p_newa (n := n) (i := 4) (kd := 0) (m := 14) hn rfl hz hb (T_X1_init 16 _ _ _ rfl) (Or.inl ⟨rfl, rfl⟩) wa_int rfl ⟨Nat.le_of_ble_eq_true rfl, Nat.le_of_ble_eq_true rfl, Nat.le_of_ble_eq_true rfl, Nat.le_of_ble_eq_true rfl⟩ (tail' := [.inl (1, [n + 1 + 1, n + 2 + 1, n + 3 + 1, 0, 0, 0, 0, 0, 0, 0, 0, 0, 0]), .inr (0, 14), .inr (0, 14), .inr (0, 14), .inr (0, 14)]) rfl ?_
  refine p_putF (n := n) (i := 0) (r := n + 4 + 1) hn (T_X1_init 17 _ _ _ rfl) ff_X1_21 rfl (Nat.le_of_ble_eq_true rfl) rfl (Or.inl ⟨_, rfl⟩) (tail' := [.inl (1, [n + 1 + 1, n + 2 + 1, n + 3 + 1, n + 4 + 1, 0, 0, 0, 0, 0, 0, 0, 0, 0]), .inr (0, 14), .inr (0, 14), .inr (0, 14), .inr (0, 14)]) rfl ?_
  refine n_aload_n (T_X1_init 18 _ _ _ rfl) rfl ?_
  refine n_bipush (T_X1_init 19 _ _ _ rfl) (by decide) ?_
  refine p_newa (n := n) (i := 5) (kd := 0) (m := 14) hn rfl hz hb (T_X1_init 20 _ _ _ rfl) (Or.inl ⟨rfl, rfl⟩) wa_int rfl ⟨Nat.le_of_ble_eq_true rfl, Nat.le_of_ble_eq_true rfl, Nat.le_of_ble_eq_true rfl, Nat.le_of_ble_eq_true rfl⟩ (tail' := [.inl (1, [n + 1 + 1, n + 2 + 1, n + 3 + 1, n + 4 + 1, 0, 0, 0, 0, 0, 0, 0, 0, 0]), .inr (0, 14), .inr (0, 14), .inr (0, 14), .inr (0, 14), .inr (0, 14)]) rfl ?_
  refine p_putF (n := n) (i := 0) (r := n + 5 + 1) hn (T_X1_init 21 _ _ _ rfl) ff_X1_24 rfl (Nat.le_of_ble_eq_true rfl) rfl (Or.inl ⟨_, rfl⟩) (tail' := [.inl (1, [n + 1 + 1, n + 2 + 1, n + 3 + 1, n + 4 + 1, 0, 0, 0, 0, n + 5 + 1, 0, 0, 0, 0]), .inr (0, 14), .inr (0, 14), .inr (0, 14), .inr (0, 14), .inr (0, 14)]) rfl ?_
  exact n_ret (T_X1_init 22 _ _ _ rfl) rfl ⟨rfl, rfl⟩
set_option maxRecDepth 100000 in
set_option maxHeartbeats 4000000 in
theorem C_X2_init (pre : List Dsc) (n : Nat) (hn : pre.length = n) (hb : n ≤ 150) (h : Hp) (hz : ∀ c, n ≤ c → h c = fun _ => 0) : RunsC true M_X2_init 2 8 616 [.inr (n + 1)] (pre ++ [.inl (2, [0, 0, 0, 0, 0, 0, 0, 0, 0, 0, 0, 0])]) h (fun l2 h2 => l2 = pre ++ [.inl (2, [n + 1 + 1, n + 2 + 1, n + 3 + 1, n + 4 + 1, 0, n + 5 + 1, n + 6 + 1, 0, n + 7 + 1, n + 8 + 1, 0, 0]), .inr (0, 16), .inr (0, 16), .inr (0, 16), .inr (0, 16), .inr (0, 240), .inr (0, 240), .inr (0, 8), .inr (0, 64)] ∧ h2 = h) := by
  have hb : n ≤ 200 := by omega
  refine RunsC.of rfl (Nat.le_of_ble_eq_true rfl) (fun l2 h2 hq => ?_) ?_
  · rw [hq.1]
    simp only [List.length_append, szL_ap]
    exact ⟨by simp only [List.length_cons, List.length_nil], by rw [Nat.add_assoc]; rfl⟩
  rw [List.length_append, szL_ap, Nat.add_assoc, Nat.add_assoc]
  show GoC true M_X2_init 2 (pre.length + 9) (szL pre + 628) 0 [some (.inr (n + 1))] [] (pre ++ [.inl (2, [0, 0, 0, 0, 0, 0, 0, 0, 0, 0, 0, 0])]) h _
  refine n_aload_n (T_X2_init 0 _ _ _ rfl) rfl ?_
  refine n_obj (r := n) (T_X2_init 1 _ _ _ rfl) ml_X2_3 wobj (Nat.le_of_ble_eq_true rfl) (by omega) ?_
  refine n_aload_n (T_X2_init 2 _ _ _ rfl) rfl ?_
  refine n_bipush (T_X2_init 3 _ _ _ rfl) (by decide) ?_
  refine p_newa (n := n) (i := 1) (kd := 0) (m := 16) hn rfl hz hb (T_X2_init 4 _ _ _ rfl) (Or.inl ⟨rfl, rfl⟩) wa_int rfl ⟨Nat.le_of_ble_eq_true rfl, Nat.le_of_ble_eq_true rfl, Nat.le_of_ble_eq_true rfl, Nat.le_of_ble_eq_true rfl⟩ (tail' := [.inl (2, [0, 0, 0, 0, 0, 0, 0, 0, 0, 0, 0, 0]), .inr (0, 16)]) rfl ?_
  refine p_putF (n := n) (i := 0) (r := n + 1 + 1) hn (T_X2_init 5 _ _ _ rfl) ff_X2_9 rfl (Nat.le_of_ble_eq_true rfl) rfl (Or.inl ⟨_, rfl⟩) (tail' := [.inl (2, [n + 1 + 1, 0, 0, 0, 0, 0, 0, 0, 0, 0, 0, 0]), .inr (0, 16)]) rfl ?_
  refine n_aload_n (T_X2_init 6 _ _ _ rfl) rfl ?_
  refine n_bipush (T_X2_init 7 _ _ _ rfl) (by decide) ?_
  refine p_newa (n := n) (i := 2) (kd := 0) (m := 16) hn rfl hz hb (T_X2_init 8 _ _ _ rfl) (Or.inl ⟨rfl, rfl⟩) wa_int rfl ⟨Nat.le_of_ble_eq_true rfl, Nat.le_of_ble_eq_true rfl, Nat.le_of_ble_eq_true rfl, Nat.le_of_ble_eq_true rfl⟩ (tail' := [.inl (2, [n + 1 + 1, 0, 0, 0, 0, 0, 0, 0, 0, 0, 0, 0]), .inr (0, 16), .inr (0, 16)]) rfl ?_
  refine p_putF (n := n) (i := 0) (r := n + 2 + 1) hn (T_X2_init 9 _ _ _ rfl) ff_X2_15 rfl (Nat.le_of_ble_eq_true rfl) rfl (Or.inl ⟨_, rfl⟩) (tail' := [.inl (2, [n + 1 + 1, n + 2 + 1, 0, 0, 0, 0, 0, 0, 0, 0, 0, 0]), .inr (0, 16), .inr (0, 16)]) rfl ?_
  refine n_aload_n (T_X2_init 10 _ _ _ rfl) rfl ?_
  refine n_bipush (T_X2_init 11 _ _ _ rfl) (by decide) ?_
  refine p_newa (n := n) (i := 3) (kd := 0) (m := 16) hn rfl hz hb (T_X2_init 12 _ _ _ rfl) (Or.inl ⟨rfl, rfl⟩) wa_int rfl ⟨Nat.le_of_ble_eq_true rfl, Nat.le_of_ble_eq_true rfl, Nat.le_of_ble_eq_true rfl, Nat.le_of_ble_eq_true rfl⟩ (tail' := [.inl (2, [n + 1 + 1, n + 2 + 1, 0, 0, 0, 0, 0, 0, 0, 0, 0, 0]), .inr (0, 16), .inr (0, 16), .inr (0, 16)]) rfl ?_
  refine p_putF (n := n) (i := 0) (r := n + 3 + 1) hn (T_X2_init 13 _ _ _ rfl) ff_X2_18 rfl (Nat.le_of_ble_eq_true rfl) rfl (Or.inl ⟨_, rfl⟩) (tail' := [.inl (2, [n + 1 + 1, n + 2 + 1, n + 3 + 1, 0, 0, 0, 0, 0, 0, 0, 0, 0]), .inr (0, 16), .inr (0, 16), .inr (0, 16)]) rfl ?_
  refine n_aload_n (T_X2_init 14 _ _ _ rfl) rfl ?_
  refine n_bipush (T_X2_init 15 _ _ _ rfl) (by decide) ?_
  refine p_newa (n := n) (i := 4) (kd := 0) (m := 16) hn rfl hz hb (T_X2_init 16 _ _ _ rfl) (Or.inl ⟨rfl, rfl⟩) wa_int rfl ⟨Nat.le_of_ble_eq_true rfl, Nat.le_of_ble_eq_true rfl, Nat.le_of_ble_eq_true rfl, Nat.le_of_ble_eq_true rfl⟩ (tail' := [.inl (2, [n + 1 + 1, n + 2 + 1, n + 3 + 1, 0, 0, 0, 0, 0, 0, 0, 0, 0]), .inr (0, 16), .inr (0, 16), .inr (0, 16), .inr (0, 16)]) rfl ?_
  refine p_putF (n := n) (i := 0) (r := n + 4 + 1) hn (T_X2_init 17 _ _ _ rfl) ff_X2_21 rfl (Nat.le_of_ble_eq_true rfl) rfl (Or.inl ⟨_, rfl⟩) (tail' := [.inl (2, [n + 1 + 1, n + 2 + 1, n + 3 + 1, n + 4 + 1, 0, 0, 0, 0, 0, 0, 0, 0]), .inr (0, 16), .inr (0, 16), .inr (0, 16), .inr (0, 16)]) rfl ?_
  refine n_aload_n (T_X2_init 18 _ _ _ rfl) rfl ?_
  refine n_sipush (T_X2_init 19 _ _ _ rfl) (by decide) ?_
  refine p_newa (n := n) (i := 5) (kd := 0) (m := 240) hn rfl hz hb (T_X2_init 20 _ _ _ rfl) (Or.inl ⟨rfl, rfl⟩) wa_int rfl ⟨Nat.le_of_ble_eq_true rfl, Nat.le_of_ble_eq_true rfl, Nat.le_of_ble_eq_true rfl, Nat.le_of_ble_eq_true rfl⟩ (tail' := [.inl (2, [n + 1 + 1, n + 2 + 1, n + 3 + 1, n + 4 + 1, 0, 0, 0, 0, 0, 0, 0, 0]), .inr (0, 16), .inr (0, 16), .inr (0, 16), .inr (0, 16), .inr (0, 240)]) rfl ?_
  refine p_putF (n := n) (i := 0) (r := n + 5 + 1) hn (T_X2_init 21 _ _ _ rfl) ff_X2_24 rfl (Nat.le_of_ble_eq_true rfl) rfl (Or.inl ⟨_, rfl⟩) (tail' := [.inl (2, [n + 1 + 1, n + 2 + 1, n + 3 + 1, n + 4 + 1, 0, n + 5 + 1, 0, 0, 0, 0, 0, 0]), .inr (0, 16), .inr (0, 16), .inr (0, 16), .inr (0, 16), .inr (0, 240)]) rfl ?_
  refine n_aload_n (T_X2_init 22 _ _ _ rfl) rfl ?_
  refine n_sipush (T_X2_init 23 _ _ _ rfl) (by decide) ?_
  refine p_newa (n := n) (i := 6) (kd := 0) (m := 240) hn rfl hz hb (T_X2_init 24 _ _ _ rfl) (Or.inl ⟨rfl, rfl⟩) wa_int rfl ⟨Nat.le_of_ble_eq_true rfl, Nat.le_of_ble_eq_true rfl, Nat.le_of_ble_eq_true rfl, Nat.le_of_ble_eq_true rfl⟩ (tail' := [.inl (2, [n + 1 + 1, n + 2 + 1, n + 3 + 1, n + 4 + 1, 0, n + 5 + 1, 0, 0, 0, 0, 0, 0]), .inr (0, 16), .inr (0, 16), .inr (0, 16), .inr (0, 16), .inr (0, 240), .inr (0, 240)]) rfl ?_
  refine p_putF (n := n) (i := 0) (r := n + 6 + 1) hn (T_X2_init 25 _ _ _ rfl) ff_X2_27 rfl (Nat.le_of_ble_eq_true rfl) rfl (Or.inl ⟨_, rfl⟩) (tail' := [.inl (2, [n + 1 + 1, n + 2 + 1, n + 3 + 1, n + 4 + 1, 0, n + 5 + 1, n + 6 + 1, 0, 0, 0, 0, 0]), .inr (0, 16), .inr (0, 16), .inr (0, 16), .inr (0, 16), .inr (0, 240), .inr (0, 240)]) rfl ?_
  refine n_aload_n (T_X2_init 26 _ _ _ rfl) rfl ?_
  refine n_bipush (T_X2_init 27 _ _ _ rfl) (by decide) ?_
  refine p_newa (n := n) (i := 7) (kd := 0) (m := 8) hn rfl hz hb (T_X2_init 28 _ _ _ rfl) (Or.inl ⟨rfl, rfl⟩) wa_int rfl ⟨Nat.le_of_ble_eq_true rfl, Nat.le_of_ble_eq_true rfl, Nat.le_of_ble_eq_true rfl, Nat.le_of_ble_eq_true rfl⟩ (tail' := [.inl (2, [n + 1 + 1, n + 2 + 1, n + 3 + 1, n + 4 + 1, 0, n + 5 + 1, n + 6 + 1, 0, 0, 0, 0, 0]), .inr (0, 16), .inr (0, 16), .inr (0, 16), .inr (0, 16), .inr (0, 240), .inr (0, 240), .inr (0, 8)]) rfl ?_
  refine p_putF (n := n) (i := 0) (r := n + 7 + 1) hn (T_X2_init 29 _ _ _ rfl) ff_X2_30 rfl (Nat.le_of_ble_eq_true rfl) rfl (Or.inl ⟨_, rfl⟩) (tail' := [.inl (2, [n + 1 + 1, n + 2 + 1, n + 3 + 1, n + 4 + 1, 0, n + 5 + 1, n + 6 + 1, 0, n + 7 + 1, 0, 0, 0]), .inr (0, 16), .inr (0, 16), .inr (0, 16), .inr (0, 16), .inr (0, 240), .inr (0, 240), .inr (0, 8)]) rfl ?_
  refine n_aload_n (T_X2_init 30 _ _ _ rfl) rfl ?_
  refine n_bipush (T_X2_init 31 _ _ _ rfl) (by decide) ?_
  refine p_newa (n := n) (i := 8) (kd := 0) (m := 64) hn rfl hz hb (T_X2_init 32 _ _ _ rfl) (Or.inl ⟨rfl, rfl⟩) wa_int rfl ⟨Nat.le_of_ble_eq_true rfl, Nat.le_of_ble_eq_true rfl, Nat.le_of_ble_eq_true rfl, Nat.le_of_ble_eq_true rfl⟩ (tail' := [.inl (2, [n + 1 + 1, n + 2 + 1, n + 3 + 1, n + 4 + 1, 0, n + 5 + 1, n + 6 + 1, 0, n + 7 + 1, 0, 0, 0]), .inr (0, 16), .inr (0, 16), .inr (0, 16), .inr (0, 16), .inr (0, 240), .inr (0, 240), .inr (0, 8), .inr (0, 64)]) rfl ?_
  refine p_putF (n := n) (i := 0) (r := n + 8 + 1) hn (T_X2_init 33 _ _ _ rfl) ff_X2_33 rfl (Nat.le_of_ble_eq_true rfl) rfl (Or.inl ⟨_, rfl⟩) (tail' := [.inl (2, [n + 1 + 1, n + 2 + 1, n + 3 + 1, n + 4 + 1, 0, n + 5 + 1, n + 6 + 1, 0, n + 7 + 1, n + 8 + 1, 0, 0]), .inr (0, 16), .inr (0, 16), .inr (0, 16), .inr (0, 16), .inr (0, 240), .inr (0, 240), .inr (0, 8), .inr (0, 64)]) rfl ?_
  exact n_ret (T_X2_init 34 _ _ _ rfl) rfl ⟨rfl, rfl⟩
set_option maxRecDepth 100000 in
set_option maxHeartbeats 4000000 in
theorem C_X0_init (pre : List Dsc) (n : Nat) (hn : pre.length = n) (hb : n ≤ 150) (h : Hp) (hz : ∀ c, n ≤ c → h c = fun _ => 0) : RunsC true M_X0_init 2 3 48 [.inr (n + 1)] (pre ++ [.inl (0, [0, 0, 0, 0, 0])]) h (fun l2 h2 => l2 = pre ++ [.inl (0, [n + 1 + 1, n + 2 + 1, n + 3 + 1, 0, 0]), .inr (0, 16), .inr (0, 16), .inr (2, 16)] ∧ h2 = h) := by
  have hb : n ≤ 200 := by omega
  refine RunsC.of rfl (Nat.le_of_ble_eq_true rfl) (fun l2 h2 hq => ?_) ?_
  · rw [hq.1]
    simp only [List.length_append, szL_ap]
    exact ⟨by simp only [List.length_cons, List.length_nil], by rw [Nat.add_assoc]; rfl⟩
  rw [List.length_append, szL_ap, Nat.add_assoc, Nat.add_assoc]
  show GoC true M_X0_init 2 (pre.length + 4) (szL pre + 53) 0 [some (.inr (n + 1))] [] (pre ++ [.inl (0, [0, 0, 0, 0, 0])]) h _
  refine n_aload_n (T_X0_init 0 _ _ _ rfl) rfl ?_
  refine n_obj (r := n) (T_X0_init 1 _ _ _ rfl) ml_X0_3 wobj (Nat.le_of_ble_eq_true rfl) (by omega) ?_
  refine n_aload_n (T_X0_init 2 _ _ _ rfl) rfl ?_
  refine n_bipush (T_X0_init 3 _ _ _ rfl) (by decide) ?_
  refine p_newa (n := n) (i := 1) (kd := 0) (m := 16) hn rfl hz hb (T_X0_init 4 _ _ _ rfl) (Or.inl ⟨rfl, rfl⟩) wa_int rfl ⟨Nat.le_of_ble_eq_true rfl, Nat.le_of_ble_eq_true rfl, Nat.le_of_ble_eq_true rfl, Nat.le_of_ble_eq_true rfl⟩ (tail' := [.inl (0, [0, 0, 0, 0, 0]), .inr (0, 16)]) rfl ?_
  refine p_putF (n := n) (i := 0) (r := n + 1 + 1) hn (T_X0_init 5 _ _ _ rfl) ff_X0_9 rfl (Nat.le_of_ble_eq_true rfl) rfl (Or.inl ⟨_, rfl⟩) (tail' := [.inl (0, [n + 1 + 1, 0, 0, 0, 0]), .inr (0, 16)]) rfl ?_
  refine n_aload_n (T_X0_init 6 _ _ _ rfl) rfl ?_
  refine n_bipush (T_X0_init 7 _ _ _ rfl) (by decide) ?_
  refine p_newa (n := n) (i := 2) (kd := 0) (m := 16) hn rfl hz hb (T_X0_init 8 _ _ _ rfl) (Or.inl ⟨rfl, rfl⟩) wa_int rfl ⟨Nat.le_of_ble_eq_true rfl, Nat.le_of_ble_eq_true rfl, Nat.le_of_ble_eq_true rfl, Nat.le_of_ble_eq_true rfl⟩ (tail' := [.inl (0, [n + 1 + 1, 0, 0, 0, 0]), .inr (0, 16), .inr (0, 16)]) rfl ?_
  refine p_putF (n := n) (i := 0) (r := n + 2 + 1) hn (T_X0_init 9 _ _ _ rfl) ff_X0_15 rfl (Nat.le_of_ble_eq_true rfl) rfl (Or.inl ⟨_, rfl⟩) (tail' := [.inl (0, [n + 1 + 1, n + 2 + 1, 0, 0, 0]), .inr (0, 16), .inr (0, 16)]) rfl ?_
  refine n_aload_n (T_X0_init 10 _ _ _ rfl) rfl ?_
  refine n_bipush (T_X0_init 11 _ _ _ rfl) (by decide) ?_
  refine p_newa (n := n) (i := 3) (kd := 2) (m := 16) hn rfl hz hb (T_X0_init 12 _ _ _ rfl) (Or.inr (Or.inr ⟨rfl, rfl⟩)) wa_boolean rfl ⟨Nat.le_of_ble_eq_true rfl, Nat.le_of_ble_eq_true rfl, Nat.le_of_ble_eq_true rfl, Nat.le_of_ble_eq_true rfl⟩ (tail' := [.inl (0, [n + 1 + 1, n + 2 + 1, 0, 0, 0]), .inr (0, 16), .inr (0, 16), .inr (2, 16)]) rfl ?_
  refine p_putF (n := n) (i := 0) (r := n + 3 + 1) hn (T_X0_init 13 _ _ _ rfl) ff_X0_18 rfl (Nat.le_of_ble_eq_true rfl) rfl (Or.inl ⟨_, rfl⟩) (tail' := [.inl (0, [n + 1 + 1, n + 2 + 1, n + 3 + 1, 0, 0]), .inr (0, 16), .inr (0, 16), .inr (2, 16)]) rfl ?_
  exact n_ret (T_X0_init 14 _ _ _ rfl) rfl ⟨rfl, rfl⟩
set_option maxRecDepth 100000 in
set_option maxHeartbeats 4000000 in
theorem C_X3_init (pre : List Dsc) (n : Nat) (hn : pre.length = n) (hb : n ≤ 140) (h : Hp) (hz : ∀ c, n ≤ c → h c = fun _ => 0) : RunsC true M_X3_init 4 9 628 [.inr (n + 1)] (pre ++ [.inl (3, [0])]) h (fun l2 h2 => l2 = pre ++ [.inl (3, [n + 1 + 1]), .inl (2, [n + 1 + 1 + 1, n + 1 + 2 + 1, n + 1 + 3 + 1, n + 1 + 4 + 1, 0, n + 1 + 5 + 1, n + 1 + 6 + 1, 0, n + 1 + 7 + 1, n + 1 + 8 + 1, 0, 0]), .inr (0, 16), .inr (0, 16), .inr (0, 16), .inr (0, 16), .inr (0, 240), .inr (0, 240), .inr (0, 8), .inr (0, 64)] ∧ h2 = h) := by
  have hb : n ≤ 200 := by omega
  refine RunsC.of rfl (Nat.le_of_ble_eq_true rfl) (fun l2 h2 hq => ?_) ?_
  · rw [hq.1]
    simp only [List.length_append, szL_ap]
    exact ⟨by simp only [List.length_cons, List.length_nil], by rw [Nat.add_assoc]; rfl⟩
  rw [List.length_append, szL_ap, Nat.add_assoc, Nat.add_assoc]
  show GoC true M_X3_init 4 (pre.length + 10) (szL pre + 629) 0 [some (.inr (n + 1))] [] (pre ++ [.inl (3, [0])]) h _
  refine n_aload_n (T_X3_init 0 _ _ _ rfl) rfl ?_
  refine n_obj (r := n) (T_X3_init 1 _ _ _ rfl) ml_X3_3 wobj (Nat.le_of_ble_eq_true rfl) (by omega) ?_
  refine n_aload_n (T_X3_init 2 _ _ _ rfl) rfl ?_
  refine p_new (n := n) (i := 1) (rs := [0, 0, 0, 0, 0, 0, 0, 0, 0, 0, 0, 0]) hn rfl hz hb (T_X3_init 3 _ _ _ rfl) cl2 nw_X3_9 df_2 zr_2 ⟨Nat.le_of_ble_eq_true rfl, Nat.le_of_ble_eq_true rfl, Nat.le_of_ble_eq_true rfl⟩ (tail' := [.inl (3, [0]), .inl (2, [0, 0, 0, 0, 0, 0, 0, 0, 0, 0, 0, 0])]) rfl ?_
  refine n_dup (T_X3_init 4 _ _ _ rfl) ?_
  refine p_callI (M' := M_X2_init) (d' := 2) (r := n + 1) (av := []) (mc := 8) (ms := 616) (h' := h) (tail' := [.inl (3, [0]), .inl (2, [n + 1 + 1 + 1, n + 1 + 2 + 1, n + 1 + 3 + 1, n + 1 + 4 + 1, 0, n + 1 + 5 + 1, n + 1 + 6 + 1, 0, n + 1 + 7 + 1, n + 1 + 8 + 1, 0, 0]), .inr (0, 16), .inr (0, 16), .inr (0, 16), .inr (0, 16), .inr (0, 240), .inr (0, 240), .inr (0, 8), .inr (0, 64)]) (T_X3_init 5 _ _ _ rfl) (Or.inr ⟨_, ml_X3_11⟩) cbi_X2_init rfl (Nat.le_of_ble_eq_true rfl) (by omega) ⟨Nat.le_of_ble_eq_true rfl, Nat.le_of_ble_eq_true rfl⟩ ((C_X2_init (pre ++ [.inl (3, [0])]) (n + 1) (by rw [List.length_append, hn]; rfl) (by omega) h (fun c hc => hz c (by omega))).to (fun l2 h2 hq => ⟨by rw [hq.1, List.append_assoc]; rfl, hq.2⟩)) (by rw [List.append_assoc]; rfl) ⟨rfl, rfl⟩ ?_
  refine p_putF (n := n) (i := 0) (r := n + 1 + 1) hn (T_X3_init 6 _ _ _ rfl) ff_X3_12 rfl (Nat.le_of_ble_eq_true rfl) rfl (Or.inr ⟨_, rfl⟩) (tail' := [.inl (3, [n + 1 + 1]), .inl (2, [n + 1 + 1 + 1, n + 1 + 2 + 1, n + 1 + 3 + 1, n + 1 + 4 + 1, 0, n + 1 + 5 + 1, n + 1 + 6 + 1, 0, n + 1 + 7 + 1, n + 1 + 8 + 1, 0, 0]), .inr (0, 16), .inr (0, 16), .inr (0, 16), .inr (0, 16), .inr (0, 240), .inr (0, 240), .inr (0, 8), .inr (0, 64)]) rfl ?_
  exact n_ret (T_X3_init 7 _ _ _ rfl) rfl ⟨rfl, rfl⟩
set_option maxRecDepth 100000 in
set_option maxHeartbeats 4000000 in
theorem C_X5_init (pre : List Dsc) (n : Nat) (hn : pre.length = n) (hb : n ≤ 150) (r1 : Nat) (r2 : Nat) (r3 : Nat) (h : Hp) (hz : ∀ c, n ≤ c → h c = fun _ => 0) : RunsC true M_X5_init 2 7 44 [.inr (n + 1), .inr r1, .inr r2, .inr r3] (pre ++ [.inl (5, [0, 0, 0, 0, 0, 0, 0, 0, 0, 0, 0, 0, 0, 0, 0, 0])]) h (fun l2 h2 => l2 = pre ++ [.inl (5, [r1, r2, r3, n + 1 + 1, n + 2 + 1, n + 3 + 1, n + 4 + 1, n + 5 + 1, n + 6 + 1, n + 7 + 1, 0, 0, 0, 0, 0, 0]), .inr (0, 14), .inr (3, 5), .inr (0, 5), .inr (0, 5), .inr (0, 5), .inr (0, 5), .inr (0, 5)] ∧ h2 = h) := by
  have hb : n ≤ 200 := by omega
  refine RunsC.of rfl (Nat.le_of_ble_eq_true rfl) (fun l2 h2 hq => ?_) ?_
  · rw [hq.1]
    simp only [List.length_append, szL_ap]
    exact ⟨by simp only [List.length_cons, List.length_nil], by rw [Nat.add_assoc]; rfl⟩
  rw [List.length_append, szL_ap, Nat.add_assoc, Nat.add_assoc]
  show GoC true M_X5_init 2 (pre.length + 8) (szL pre + 60) 0 [some (.inr (n + 1)), some (.inr r1), some (.inr r2), some (.inr r3)] [] (pre ++ [.inl (5, [0, 0, 0, 0, 0, 0, 0, 0, 0, 0, 0, 0, 0, 0, 0, 0])]) h _
  refine n_aload_n (T_X5_init 0 _ _ _ rfl) rfl ?_
  refine n_obj (r := n) (T_X5_init 1 _ _ _ rfl) ml_X5_5 wobj (Nat.le_of_ble_eq_true rfl) (by omega) ?_
  refine n_aload_n (T_X5_init 2 _ _ _ rfl) rfl ?_
  refine n_bipush (T_X5_init 3 _ _ _ rfl) (by decide) ?_
  refine p_newa (n := n) (i := 1) (kd := 0) (m := 14) hn rfl hz hb (T_X5_init 4 _ _ _ rfl) (Or.inl ⟨rfl, rfl⟩) wa_int rfl ⟨Nat.le_of_ble_eq_true rfl, Nat.le_of_ble_eq_true rfl, Nat.le_of_ble_eq_true rfl, Nat.le_of_ble_eq_true rfl⟩ (tail' := [.inl (5, [0, 0, 0, 0, 0, 0, 0, 0, 0, 0, 0, 0, 0, 0, 0, 0]), .inr (0, 14)]) rfl ?_
  refine p_putF (n := n) (i := 0) (r := n + 1 + 1) hn (T_X5_init 5 _ _ _ rfl) ff_X5_11 rfl (Nat.le_of_ble_eq_true rfl) rfl (Or.inl ⟨_, rfl⟩) (tail' := [.inl (5, [0, 0, 0, n + 1 + 1, 0, 0, 0, 0, 0, 0, 0, 0, 0, 0, 0, 0]), .inr (0, 14)]) rfl ?_
  refine n_aload_n (T_X5_init 6 _ _ _ rfl) rfl ?_
  refine n_iconst (T_X5_init 7 _ _ _ rfl) ⟨by decide, by decide⟩ ?_
  refine p_newq (n := n) (i := 2) (m := 5) hn rfl hz hb (T_X5_init 8 _ _ _ rfl) cq_X5_17 rfl ⟨Nat.le_of_ble_eq_true rfl, Nat.le_of_ble_eq_true rfl, Nat.le_of_ble_eq_true rfl, Nat.le_of_ble_eq_true rfl⟩ (tail' := [.inl (5, [0, 0, 0, n + 1 + 1, 0, 0, 0, 0, 0, 0, 0, 0, 0, 0, 0, 0]), .inr (0, 14), .inr (3, 5)]) rfl ?_
  refine p_putF (n := n) (i := 0) (r := n + 2 + 1) hn (T_X5_init 9 _ _ _ rfl) ff_X5_19 rfl (Nat.le_of_ble_eq_true rfl) rfl (Or.inl ⟨_, rfl⟩) (tail' := [.inl (5, [0, 0, 0, n + 1 + 1, n + 2 + 1, 0, 0, 0, 0, 0, 0, 0, 0, 0, 0, 0]), .inr (0, 14), .inr (3, 5)]) rfl ?_
  refine n_aload_n (T_X5_init 10 _ _ _ rfl) rfl ?_
  refine n_iconst (T_X5_init 11 _ _ _ rfl) ⟨by decide, by decide⟩ ?_
  refine p_newa (n := n) (i := 3) (kd := 0) (m := 5) hn rfl hz hb (T_X5_init 12 _ _ _ rfl) (Or.inl ⟨rfl, rfl⟩) wa_int rfl ⟨Nat.le_of_ble_eq_true rfl, Nat.le_of_ble_eq_true rfl, Nat.le_of_ble_eq_true rfl, Nat.le_of_ble_eq_true rfl⟩ (tail' := [.inl (5, [0, 0, 0, n + 1 + 1, n + 2 + 1, 0, 0, 0, 0, 0, 0, 0, 0, 0, 0, 0]), .inr (0, 14), .inr (3, 5), .inr (0, 5)]) rfl ?_
  refine p_putF (n := n) (i := 0) (r := n + 3 + 1) hn (T_X5_init 13 _ _ _ rfl) ff_X5_23 rfl (Nat.le_of_ble_eq_true rfl) rfl (Or.inl ⟨_, rfl⟩) (tail' := [.inl (5, [0, 0, 0, n + 1 + 1, n + 2 + 1, n + 3 + 1, 0, 0, 0, 0, 0, 0, 0, 0, 0, 0]), .inr (0, 14), .inr (3, 5), .inr (0, 5)]) rfl ?_
  refine n_aload_n (T_X5_init 14 _ _ _ rfl) rfl ?_
  refine n_iconst (T_X5_init 15 _ _ _ rfl) ⟨by decide, by decide⟩ ?_
  refine p_newa (n := n) (i := 4) (kd := 0) (m := 5) hn rfl hz hb (T_X5_init 16 _ _ _ rfl) (Or.inl ⟨rfl, rfl⟩) wa_int rfl ⟨Nat.le_of_ble_eq_true rfl, Nat.le_of_ble_eq_true rfl, Nat.le_of_ble_eq_true rfl, Nat.le_of_ble_eq_true rfl⟩ (tail' := [.inl (5, [0, 0, 0, n + 1 + 1, n + 2 + 1, n + 3 + 1, 0, 0, 0, 0, 0, 0, 0, 0, 0, 0]), .inr (0, 14), .inr (3, 5), .inr (0, 5), .inr (0, 5)]) rfl ?_
  refine p_putF (n := n) (i := 0) (r := n + 4 + 1) hn (T_X5_init 17 _ _ _ rfl) ff_X5_26 rfl (Nat.le_of_ble_eq_true rfl) rfl (Or.inl ⟨_, rfl⟩) (tail' := [.inl (5, [0, 0, 0, n + 1 + 1, n + 2 + 1, n + 3 + 1, n + 4 + 1, 0, 0, 0, 0, 0, 0, 0, 0, 0]), .inr (0, 14), .inr (3, 5), .inr (0, 5), .inr (0, 5)]) rfl ?_
  refine n_aload_n (T_X5_init 18 _ _ _ rfl) rfl ?_
  refine n_iconst (T_X5_init 19 _ _ _ rfl) ⟨by decide, by decide⟩ ?_
  refine p_newa (n := n) (i := 5) (kd := 0) (m := 5) hn rfl hz hb (T_X5_init 20 _ _ _ rfl) (Or.inl ⟨rfl, rfl⟩) wa_int rfl ⟨Nat.le_of_ble_eq_true rfl, Nat.le_of_ble_eq_true rfl, Nat.le_of_ble_eq_true rfl, Nat.le_of_ble_eq_true rfl⟩ (tail' := [.inl (5, [0, 0, 0, n + 1 + 1, n + 2 + 1, n + 3 + 1, n + 4 + 1, 0, 0, 0, 0, 0, 0, 0, 0, 0]), .inr (0, 14), .inr (3, 5), .inr (0, 5), .inr (0, 5), .inr (0, 5)]) rfl ?_
  refine p_putF (n := n) (i := 0) (r := n + 5 + 1) hn (T_X5_init 21 _ _ _ rfl) ff_X5_29 rfl (Nat.le_of_ble_eq_true rfl) rfl (Or.inl ⟨_, rfl⟩) (tail' := [.inl (5, [0, 0, 0, n + 1 + 1, n + 2 + 1, n + 3 + 1, n + 4 + 1, n + 5 + 1, 0, 0, 0, 0, 0, 0, 0, 0]), .inr (0, 14), .inr (3, 5), .inr (0, 5), .inr (0, 5), .inr (0, 5)]) rfl ?_
  refine n_aload_n (T_X5_init 22 _ _ _ rfl) rfl ?_
  refine n_iconst (T_X5_init 23 _ _ _ rfl) ⟨by decide, by decide⟩ ?_
  refine p_newa (n := n) (i := 6) (kd := 0) (m := 5) hn rfl hz hb (T_X5_init 24 _ _ _ rfl) (Or.inl ⟨rfl, rfl⟩) wa_int rfl ⟨Nat.le_of_ble_eq_true rfl, Nat.le_of_ble_eq_true rfl, Nat.le_of_ble_eq_true rfl, Nat.le_of_ble_eq_true rfl⟩ (tail' := [.inl (5, [0, 0, 0, n + 1 + 1, n + 2 + 1, n + 3 + 1, n + 4 + 1, n + 5 + 1, 0, 0, 0, 0, 0, 0, 0, 0]), .inr (0, 14), .inr (3, 5), .inr (0, 5), .inr (0, 5), .inr (0, 5), .inr (0, 5)]) rfl ?_
  refine p_putF (n := n) (i := 0) (r := n + 6 + 1) hn (T_X5_init 25 _ _ _ rfl) ff_X5_32 rfl (Nat.le_of_ble_eq_true rfl) rfl (Or.inl ⟨_, rfl⟩) (tail' := [.inl (5, [0, 0, 0, n + 1 + 1, n + 2 + 1, n + 3 + 1, n + 4 + 1, n + 5 + 1, n + 6 + 1, 0, 0, 0, 0, 0, 0, 0]), .inr (0, 14), .inr (3, 5), .inr (0, 5), .inr (0, 5), .inr (0, 5), .inr (0, 5)]) rfl ?_
  refine n_aload_n (T_X5_init 26 _ _ _ rfl) rfl ?_
  refine n_iconst (T_X5_init 27 _ _ _ rfl) ⟨by decide, by decide⟩ ?_
  refine p_newa (n := n) (i := 7) (kd := 0) (m := 5) hn rfl hz hb (T_X5_init 28 _ _ _ rfl) (Or.inl ⟨rfl, rfl⟩) wa_int rfl ⟨Nat.le_of_ble_eq_true rfl, Nat.le_of_ble_eq_true rfl, Nat.le_of_ble_eq_true rfl, Nat.le_of_ble_eq_true rfl⟩ (tail' := [.inl (5, [0, 0, 0, n + 1 + 1, n + 2 + 1, n + 3 + 1, n + 4 + 1, n + 5 + 1, n + 6 + 1, 0, 0, 0, 0, 0, 0, 0]), .inr (0, 14), .inr (3, 5), .inr (0, 5), .inr (0, 5), .inr (0, 5), .inr (0, 5), .inr (0, 5)]) rfl ?_
  refine p_putF (n := n) (i := 0) (r := n + 7 + 1) hn (T_X5_init 29 _ _ _ rfl) ff_X5_35 rfl (Nat.le_of_ble_eq_true rfl) rfl (Or.inl ⟨_, rfl⟩) (tail' := [.inl (5, [0, 0, 0, n + 1 + 1, n + 2 + 1, n + 3 + 1, n + 4 + 1, n + 5 + 1, n + 6 + 1, n + 7 + 1, 0, 0, 0, 0, 0, 0]), .inr (0, 14), .inr (3, 5), .inr (0, 5), .inr (0, 5), .inr (0, 5), .inr (0, 5), .inr (0, 5)]) rfl ?_
  refine n_aload_n (T_X5_init 30 _ _ _ rfl) rfl ?_
  refine n_aload_n (T_X5_init 31 _ _ _ rfl) rfl ?_
  refine p_putF (n := n) (i := 0) (r := r1) hn (T_X5_init 32 _ _ _ rfl) ff_X5_38 rfl (Nat.le_of_ble_eq_true rfl) rfl (Or.inr ⟨_, rfl⟩) (tail' := [.inl (5, [r1, 0, 0, n + 1 + 1, n + 2 + 1, n + 3 + 1, n + 4 + 1, n + 5 + 1, n + 6 + 1, n + 7 + 1, 0, 0, 0, 0, 0, 0]), .inr (0, 14), .inr (3, 5), .inr (0, 5), .inr (0, 5), .inr (0, 5), .inr (0, 5), .inr (0, 5)]) rfl ?_
  refine n_aload_n (T_X5_init 33 _ _ _ rfl) rfl ?_
  refine n_aload_n (T_X5_init 34 _ _ _ rfl) rfl ?_
  refine p_putF (n := n) (i := 0) (r := r2) hn (T_X5_init 35 _ _ _ rfl) ff_X5_42 rfl (Nat.le_of_ble_eq_true rfl) rfl (Or.inr ⟨_, rfl⟩) (tail' := [.inl (5, [r1, r2, 0, n + 1 + 1, n + 2 + 1, n + 3 + 1, n + 4 + 1, n + 5 + 1, n + 6 + 1, n + 7 + 1, 0, 0, 0, 0, 0, 0]), .inr (0, 14), .inr (3, 5), .inr (0, 5), .inr (0, 5), .inr (0, 5), .inr (0, 5), .inr (0, 5)]) rfl ?_
  refine n_aload_n (T_X5_init 36 _ _ _ rfl) rfl ?_
  refine n_aload_n (T_X5_init 37 _ _ _ rfl) rfl ?_
  refine p_putF (n := n) (i := 0) (r := r3) hn (T_X5_init 38 _ _ _ rfl) ff_X5_46 rfl (Nat.le_of_ble_eq_true rfl) rfl (Or.inr ⟨_, rfl⟩) (tail' := [.inl (5, [r1, r2, r3, n + 1 + 1, n + 2 + 1, n + 3 + 1, n + 4 + 1, n + 5 + 1, n + 6 + 1, n + 7 + 1, 0, 0, 0, 0, 0, 0]), .inr (0, 14), .inr (3, 5), .inr (0, 5), .inr (0, 5), .inr (0, 5), .inr (0, 5), .inr (0, 5)]) rfl ?_
  exact n_ret (T_X5_init 39 _ _ _ rfl) rfl ⟨rfl, rfl⟩
set_option maxRecDepth 100000 in
set_option maxHeartbeats 4000000 in
theorem C_X8_init (pre : List Dsc) (n : Nat) (hn : pre.length = n) (hb : n ≤ 150) (r1 : Nat) (h : Hp) (hz : ∀ c, n ≤ c → h c = fun _ => 0) : RunsC true M_X8_init 2 3 1039 [.inr (n + 1), .inr r1] (pre ++ [.inl (8, [0, 0, 0, 0, 0])]) h (fun l2 h2 => l2 = pre ++ [.inl (8, [r1, n + 1 + 1, n + 2 + 1, n + 3 + 1, 0]), .inr (0, 8), .inr (0, 1024), .inr (0, 7)] ∧ h2 = h) := by
  have hb : n ≤ 200 := by omega
  refine RunsC.of rfl (Nat.le_of_ble_eq_true rfl) (fun l2 h2 hq => ?_) ?_
  · rw [hq.1]
    simp only [List.length_append, szL_ap]
    exact ⟨by simp only [List.length_cons, List.length_nil], by rw [Nat.add_assoc]; rfl⟩
  rw [List.length_append, szL_ap, Nat.add_assoc, Nat.add_assoc]
  show GoC true M_X8_init 2 (pre.length + 4) (szL pre + 1044) 0 [some (.inr (n + 1)), some (.inr r1)] [] (pre ++ [.inl (8, [0, 0, 0, 0, 0])]) h _
  refine n_aload_n (T_X8_init 0 _ _ _ rfl) rfl ?_
  refine n_obj (r := n) (T_X8_init 1 _ _ _ rfl) ml_X8_3 wobj (Nat.le_of_ble_eq_true rfl) (by omega) ?_
  refine n_aload_n (T_X8_init 2 _ _ _ rfl) rfl ?_
  refine n_bipush (T_X8_init 3 _ _ _ rfl) (by decide) ?_
  refine p_newa (n := n) (i := 1) (kd := 0) (m := 8) hn rfl hz hb (T_X8_init 4 _ _ _ rfl) (Or.inl ⟨rfl, rfl⟩) wa_int rfl ⟨Nat.le_of_ble_eq_true rfl, Nat.le_of_ble_eq_true rfl, Nat.le_of_ble_eq_true rfl, Nat.le_of_ble_eq_true rfl⟩ (tail' := [.inl (8, [0, 0, 0, 0, 0]), .inr (0, 8)]) rfl ?_
  refine p_putF (n := n) (i := 0) (r := n + 1 + 1) hn (T_X8_init 5 _ _ _ rfl) ff_X8_11 rfl (Nat.le_of_ble_eq_true rfl) rfl (Or.inl ⟨_, rfl⟩) (tail' := [.inl (8, [0, n + 1 + 1, 0, 0, 0]), .inr (0, 8)]) rfl ?_
  refine n_aload_n (T_X8_init 6 _ _ _ rfl) rfl ?_
  refine n_sipush (T_X8_init 7 _ _ _ rfl) (by decide) ?_
  refine p_newa (n := n) (i := 2) (kd := 0) (m := 1024) hn rfl hz hb (T_X8_init 8 _ _ _ rfl) (Or.inl ⟨rfl, rfl⟩) wa_int rfl ⟨Nat.le_of_ble_eq_true rfl, Nat.le_of_ble_eq_true rfl, Nat.le_of_ble_eq_true rfl, Nat.le_of_ble_eq_true rfl⟩ (tail' := [.inl (8, [0, n + 1 + 1, 0, 0, 0]), .inr (0, 8), .inr (0, 1024)]) rfl ?_
  refine p_putF (n := n) (i := 0) (r := n + 2 + 1) hn (T_X8_init 9 _ _ _ rfl) ff_X8_15 rfl (Nat.le_of_ble_eq_true rfl) rfl (Or.inl ⟨_, rfl⟩) (tail' := [.inl (8, [0, n + 1 + 1, n + 2 + 1, 0, 0]), .inr (0, 8), .inr (0, 1024)]) rfl ?_
  refine n_aload_n (T_X8_init 10 _ _ _ rfl) rfl ?_
  refine n_bipush (T_X8_init 11 _ _ _ rfl) (by decide) ?_
  refine p_newa (n := n) (i := 3) (kd := 0) (m := 7) hn rfl hz hb (T_X8_init 12 _ _ _ rfl) (Or.inl ⟨rfl, rfl⟩) wa_int rfl ⟨Nat.le_of_ble_eq_true rfl, Nat.le_of_ble_eq_true rfl, Nat.le_of_ble_eq_true rfl, Nat.le_of_ble_eq_true rfl⟩ (tail' := [.inl (8, [0, n + 1 + 1, n + 2 + 1, 0, 0]), .inr (0, 8), .inr (0, 1024), .inr (0, 7)]) rfl ?_
  refine p_putF (n := n) (i := 0) (r := n + 3 + 1) hn (T_X8_init 13 _ _ _ rfl) ff_X8_18 rfl (Nat.le_of_ble_eq_true rfl) rfl (Or.inl ⟨_, rfl⟩) (tail' := [.inl (8, [0, n + 1 + 1, n + 2 + 1, n + 3 + 1, 0]), .inr (0, 8), .inr (0, 1024), .inr (0, 7)]) rfl ?_
  refine n_aload_n (T_X8_init 14 _ _ _ rfl) rfl ?_
  refine n_aload_n (T_X8_init 15 _ _ _ rfl) rfl ?_
  refine p_putF (n := n) (i := 0) (r := r1) hn (T_X8_init 16 _ _ _ rfl) ff_X8_21 rfl (Nat.le_of_ble_eq_true rfl) rfl (Or.inr ⟨_, rfl⟩) (tail' := [.inl (8, [r1, n + 1 + 1, n + 2 + 1, n + 3 + 1, 0]), .inr (0, 8), .inr (0, 1024), .inr (0, 7)]) rfl ?_
  exact n_ret (T_X8_init 17 _ _ _ rfl) rfl ⟨rfl, rfl⟩
set_option maxRecDepth 100000 in
set_option maxHeartbeats 4000000 in
theorem C_X9_init (pre : List Dsc) (n : Nat) (hn : pre.length = n) (hb : n ≤ 150) (r1 : Nat) (h : Hp) (hz : ∀ c, n ≤ c → h c = fun _ => 0) : RunsC true M_X9_init 2 3 30 [.inr (n + 1), .inr r1] (pre ++ [.inl (9, [0, 0, 0, 0, 0, 0, 0, 0, 0])]) h (fun l2 h2 => l2 = pre ++ [.inl (9, [r1, n + 1 + 1, n + 2 + 1, n + 3 + 1, 0, 0, 0, 0, 0]), .inr (0, 8), .inr (0, 8), .inr (0, 14)] ∧ h2 = h) := by
  have hb : n ≤ 200 := by omega
  refine RunsC.of rfl (Nat.le_of_ble_eq_true rfl) (fun l2 h2 hq => ?_) ?_
  · rw [hq.1]
    simp only [List.length_append, szL_ap]
    exact ⟨by simp only [List.length_cons, List.length_nil], by rw [Nat.add_assoc]; rfl⟩
  rw [List.length_append, szL_ap, Nat.add_assoc, Nat.add_assoc]
  show GoC true M_X9_init 2 (pre.length + 4) (szL pre + 39) 0 [some (.inr (n + 1)), some (.inr r1)] [] (pre ++ [.inl (9, [0, 0, 0, 0, 0, 0, 0, 0, 0])]) h _
  refine n_aload_n (T_X9_init 0 _ _ _ rfl) rfl ?_
  refine n_obj (r := n) (T_X9_init 1 _ _ _ rfl) ml_X9_3 wobj (Nat.le_of_ble_eq_true rfl) (by omega) ?_
  refine n_aload_n (T_X9_init 2 _ _ _ rfl) rfl ?_
  refine n_bipush (T_X9_init 3 _ _ _ rfl) (by decide) ?_
  refine p_newa (n := n) (i := 1) (kd := 0) (m := 8) hn rfl hz hb (T_X9_init 4 _ _ _ rfl) (Or.inl ⟨rfl, rfl⟩) wa_int rfl ⟨Nat.le_of_ble_eq_true rfl, Nat.le_of_ble_eq_true rfl, Nat.le_of_ble_eq_true rfl, Nat.le_of_ble_eq_true rfl⟩ (tail' := [.inl (9, [0, 0, 0, 0, 0, 0, 0, 0, 0]), .inr (0, 8)]) rfl ?_
  refine p_putF (n := n) (i := 0) (r := n + 1 + 1) hn (T_X9_init 5 _ _ _ rfl) ff_X9_9 rfl (Nat.le_of_ble_eq_true rfl) rfl (Or.inl ⟨_, rfl⟩) (tail' := [.inl (9, [0, n + 1 + 1, 0, 0, 0, 0, 0, 0, 0]), .inr (0, 8)]) rfl ?_
  refine n_aload_n (T_X9_init 6 _ _ _ rfl) rfl ?_
  refine n_bipush (T_X9_init 7 _ _ _ rfl) (by decide) ?_
  refine p_newa (n := n) (i := 2) (kd := 0) (m := 8) hn rfl hz hb (T_X9_init 8 _ _ _ rfl) (Or.inl ⟨rfl, rfl⟩) wa_int rfl ⟨Nat.le_of_ble_eq_true rfl, Nat.le_of_ble_eq_true rfl, Nat.le_of_ble_eq_true rfl, Nat.le_of_ble_eq_true rfl⟩ (tail' := [.inl (9, [0, n + 1 + 1, 0, 0, 0, 0, 0, 0, 0]), .inr (0, 8), .inr (0, 8)]) rfl ?_
  refine p_putF (n := n) (i := 0) (r := n + 2 + 1) hn (T_X9_init 9 _ _ _ rfl) ff_X9_15 rfl (Nat.le_of_ble_eq_true rfl) rfl (Or.inl ⟨_, rfl⟩) (tail' := [.inl (9, [0, n + 1 + 1, n + 2 + 1, 0, 0, 0, 0, 0, 0]), .inr (0, 8), .inr (0, 8)]) rfl ?_
  refine n_aload_n (T_X9_init 10 _ _ _ rfl) rfl ?_
  refine n_bipush (T_X9_init 11 _ _ _ rfl) (by decide) ?_
  refine p_newa (n := n) (i := 3) (kd := 0) (m := 14) hn rfl hz hb (T_X9_init 12 _ _ _ rfl) (Or.inl ⟨rfl, rfl⟩) wa_int rfl ⟨Nat.le_of_ble_eq_true rfl, Nat.le_of_ble_eq_true rfl, Nat.le_of_ble_eq_true rfl, Nat.le_of_ble_eq_true rfl⟩ (tail' := [.inl (9, [0, n + 1 + 1, n + 2 + 1, 0, 0, 0, 0, 0, 0]), .inr (0, 8), .inr (0, 8), .inr (0, 14)]) rfl ?_
  refine p_putF (n := n) (i := 0) (r := n + 3 + 1) hn (T_X9_init 13 _ _ _ rfl) ff_X9_18 rfl (Nat.le_of_ble_eq_true rfl) rfl (Or.inl ⟨_, rfl⟩) (tail' := [.inl (9, [0, n + 1 + 1, n + 2 + 1, n + 3 + 1, 0, 0, 0, 0, 0]), .inr (0, 8), .inr (0, 8), .inr (0, 14)]) rfl ?_
  refine n_aload_n (T_X9_init 14 _ _ _ rfl) rfl ?_
  refine n_aload_n (T_X9_init 15 _ _ _ rfl) rfl ?_
  refine p_putF (n := n) (i := 0) (r := r1) hn (T_X9_init 16 _ _ _ rfl) ff_X9_21 rfl (Nat.le_of_ble_eq_true rfl) rfl (Or.inr ⟨_, rfl⟩) (tail' := [.inl (9, [r1, n + 1 + 1, n + 2 + 1, n + 3 + 1, 0, 0, 0, 0, 0]), .inr (0, 8), .inr (0, 8), .inr (0, 14)]) rfl ?_
  exact n_ret (T_X9_init 17 _ _ _ rfl) rfl ⟨rfl, rfl⟩
set_option maxRecDepth 100000 in
set_option maxHeartbeats 4000000 in
theorem C_X6_init (pre : List Dsc) (n : Nat) (hn : pre.length = n) (hb : n ≤ 150) (h : Hp) (hz : ∀ c, n ≤ c → h c = fun _ => 0) : RunsC true M_X6_init 2 4 27 [.inr (n + 1)] (pre ++ [.inl (6, [0, 0, 0, 0, 0, 0, 0])]) h (fun l2 h2 => l2 = pre ++ [.inl (6, [n + 1 + 1, n + 2 + 1, n + 3 + 1, n + 4 + 1, 0, 0, 0]), .inr (0, 8), .inr (0, 8), .inr (0, 8), .inr (0, 3)] ∧ h2 = h) := by
  have hb : n ≤ 200 := by omega
  refine RunsC.of rfl (Nat.le_of_ble_eq_true rfl) (fun l2 h2 hq => ?_) ?_
  · rw [hq.1]
    simp only [List.length_append, szL_ap]
    exact ⟨by simp only [List.length_cons, List.length_nil], by rw [Nat.add_assoc]; rfl⟩
  rw [List.length_append, szL_ap, Nat.add_assoc, Nat.add_assoc]
  show GoC true M_X6_init 2 (pre.length + 5) (szL pre + 34) 0 [some (.inr (n + 1))] [] (pre ++ [.inl (6, [0, 0, 0, 0, 0, 0, 0])]) h _
  refine n_aload_n (T_X6_init 0 _ _ _ rfl) rfl ?_
  refine n_obj (r := n) (T_X6_init 1 _ _ _ rfl) ml_X6_3 wobj (Nat.le_of_ble_eq_true rfl) (by omega) ?_
  refine n_aload_n (T_X6_init 2 _ _ _ rfl) rfl ?_
  refine n_bipush (T_X6_init 3 _ _ _ rfl) (by decide) ?_
  refine p_newa (n := n) (i := 1) (kd := 0) (m := 8) hn rfl hz hb (T_X6_init 4 _ _ _ rfl) (Or.inl ⟨rfl, rfl⟩) wa_int rfl ⟨Nat.le_of_ble_eq_true rfl, Nat.le_of_ble_eq_true rfl, Nat.le_of_ble_eq_true rfl, Nat.le_of_ble_eq_true rfl⟩ (tail' := [.inl (6, [0, 0, 0, 0, 0, 0, 0]), .inr (0, 8)]) rfl ?_
  refine p_putF (n := n) (i := 0) (r := n + 1 + 1) hn (T_X6_init 5 _ _ _ rfl) ff_X6_9 rfl (Nat.le_of_ble_eq_true rfl) rfl (Or.inl ⟨_, rfl⟩) (tail' := [.inl (6, [n + 1 + 1, 0, 0, 0, 0, 0, 0]), .inr (0, 8)]) rfl ?_
  refine n_aload_n (T_X6_init 6 _ _ _ rfl) rfl ?_
  refine n_bipush (T_X6_init 7 _ _ _ rfl) (by decide) ?_
  refine p_newa (n := n) (i := 2) (kd := 0) (m := 8) hn rfl hz hb (T_X6_init 8 _ _ _ rfl) (Or.inl ⟨rfl, rfl⟩) wa_int rfl ⟨Nat.le_of_ble_eq_true rfl, Nat.le_of_ble_eq_true rfl, Nat.le_of_ble_eq_true rfl, Nat.le_of_ble_eq_true rfl⟩ (tail' := [.inl (6, [n + 1 + 1, 0, 0, 0, 0, 0, 0]), .inr (0, 8), .inr (0, 8)]) rfl ?_
  refine p_putF (n := n) (i := 0) (r := n + 2 + 1) hn (T_X6_init 9 _ _ _ rfl) ff_X6_15 rfl (Nat.le_of_ble_eq_true rfl) rfl (Or.inl ⟨_, rfl⟩) (tail' := [.inl (6, [n + 1 + 1, n + 2 + 1, 0, 0, 0, 0, 0]), .inr (0, 8), .inr (0, 8)]) rfl ?_
  refine n_aload_n (T_X6_init 10 _ _ _ rfl) rfl ?_
  refine n_bipush (T_X6_init 11 _ _ _ rfl) (by decide) ?_
  refine p_newa (n := n) (i := 3) (kd := 0) (m := 8) hn rfl hz hb (T_X6_init 12 _ _ _ rfl) (Or.inl ⟨rfl, rfl⟩) wa_int rfl ⟨Nat.le_of_ble_eq_true rfl, Nat.le_of_ble_eq_true rfl, Nat.le_of_ble_eq_true rfl, Nat.le_of_ble_eq_true rfl⟩ (tail' := [.inl (6, [n + 1 + 1, n + 2 + 1, 0, 0, 0, 0, 0]), .inr (0, 8), .inr (0, 8), .inr (0, 8)]) rfl ?_
  refine p_putF (n := n) (i := 0) (r := n + 3 + 1) hn (T_X6_init 13 _ _ _ rfl) ff_X6_18 rfl (Nat.le_of_ble_eq_true rfl) rfl (Or.inl ⟨_, rfl⟩) (tail' := [.inl (6, [n + 1 + 1, n + 2 + 1, n + 3 + 1, 0, 0, 0, 0]), .inr (0, 8), .inr (0, 8), .inr (0, 8)]) rfl ?_
  refine n_aload_n (T_X6_init 14 _ _ _ rfl) rfl ?_
  refine n_iconst (T_X6_init 15 _ _ _ rfl) ⟨by decide, by decide⟩ ?_
  refine p_newa (n := n) (i := 4) (kd := 0) (m := 3) hn rfl hz hb (T_X6_init 16 _ _ _ rfl) (Or.inl ⟨rfl, rfl⟩) wa_int rfl ⟨Nat.le_of_ble_eq_true rfl, Nat.le_of_ble_eq_true rfl, Nat.le_of_ble_eq_true rfl, Nat.le_of_ble_eq_true rfl⟩ (tail' := [.inl (6, [n + 1 + 1, n + 2 + 1, n + 3 + 1, 0, 0, 0, 0]), .inr (0, 8), .inr (0, 8), .inr (0, 8), .inr (0, 3)]) rfl ?_
  refine p_putF (n := n) (i := 0) (r := n + 4 + 1) hn (T_X6_init 17 _ _ _ rfl) ff_X6_21 rfl (Nat.le_of_ble_eq_true rfl) rfl (Or.inl ⟨_, rfl⟩) (tail' := [.inl (6, [n + 1 + 1, n + 2 + 1, n + 3 + 1, n + 4 + 1, 0, 0, 0]), .inr (0, 8), .inr (0, 8), .inr (0, 8), .inr (0, 3)]) rfl ?_
  exact n_ret (T_X6_init 18 _ _ _ rfl) rfl ⟨rfl, rfl⟩
set_option maxRecDepth 100000 in
set_option maxHeartbeats 4000000 in
theorem C_X4_init (pre : List Dsc) (n : Nat) (hn : pre.length = n) (hb : n ≤ 150) (h : Hp) (hz : ∀ c, n ≤ c → h c = fun _ => 0) : RunsC true M_X4_init 2 4 24 [.inr (n + 1)] (pre ++ [.inl (4, [0, 0, 0, 0, 0, 0])]) h (fun l2 h2 => l2 = pre ++ [.inl (4, [n + 1 + 1, n + 2 + 1, n + 3 + 1, n + 4 + 1, 0, 0]), .inr (0, 6), .inr (0, 6), .inr (0, 6), .inr (0, 6)] ∧ h2 = h) := by
  have hb : n ≤ 200 := by omega
  refine RunsC.of rfl (Nat.le_of_ble_eq_true rfl) (fun l2 h2 hq => ?_) ?_
  · rw [hq.1]
    simp only [List.length_append, szL_ap]
    exact ⟨by simp only [List.length_cons, List.length_nil], by rw [Nat.add_assoc]; rfl⟩
  rw [List.length_append, szL_ap, Nat.add_assoc, Nat.add_assoc]
  show GoC true M_X4_init 2 (pre.length + 5) (szL pre + 30) 0 [some (.inr (n + 1))] [] (pre ++ [.inl (4, [0, 0, 0, 0, 0, 0])]) h _
  refine n_aload_n (T_X4_init 0 _ _ _ rfl) rfl ?_
  refine n_obj (r := n) (T_X4_init 1 _ _ _ rfl) ml_X4_3 wobj (Nat.le_of_ble_eq_true rfl) (by omega) ?_
  refine n_aload_n (T_X4_init 2 _ _ _ rfl) rfl ?_
  refine n_bipush (T_X4_init 3 _ _ _ rfl) (by decide) ?_
  refine p_newa (n := n) (i := 1) (kd := 0) (m := 6) hn rfl hz hb (T_X4_init 4 _ _ _ rfl) (Or.inl ⟨rfl, rfl⟩) wa_int rfl ⟨Nat.le_of_ble_eq_true rfl, Nat.le_of_ble_eq_true rfl, Nat.le_of_ble_eq_true rfl, Nat.le_of_ble_eq_true rfl⟩ (tail' := [.inl (4, [0, 0, 0, 0, 0, 0]), .inr (0, 6)]) rfl ?_
  refine p_putF (n := n) (i := 0) (r := n + 1 + 1) hn (T_X4_init 5 _ _ _ rfl) ff_X4_9 rfl (Nat.le_of_ble_eq_true rfl) rfl (Or.inl ⟨_, rfl⟩) (tail' := [.inl (4, [n + 1 + 1, 0, 0, 0, 0, 0]), .inr (0, 6)]) rfl ?_
  refine n_aload_n (T_X4_init 6 _ _ _ rfl) rfl ?_
  refine n_bipush (T_X4_init 7 _ _ _ rfl) (by decide) ?_
  refine p_newa (n := n) (i := 2) (kd := 0) (m := 6) hn rfl hz hb (T_X4_init 8 _ _ _ rfl) (Or.inl ⟨rfl, rfl⟩) wa_int rfl ⟨Nat.le_of_ble_eq_true rfl, Nat.le_of_ble_eq_true rfl, Nat.le_of_ble_eq_true rfl, Nat.le_of_ble_eq_true rfl⟩ (tail' := [.inl (4, [n + 1 + 1, 0, 0, 0, 0, 0]), .inr (0, 6), .inr (0, 6)]) rfl ?_
  refine p_putF (n := n) (i := 0) (r := n + 2 + 1) hn (T_X4_init 9 _ _ _ rfl) ff_X4_15 rfl (Nat.le_of_ble_eq_true rfl) rfl (Or.inl ⟨_, rfl⟩) (tail' := [.inl (4, [n + 1 + 1, n + 2 + 1, 0, 0, 0, 0]), .inr (0, 6), .inr (0, 6)]) rfl ?_
  refine n_aload_n (T_X4_init 10 _ _ _ rfl) rfl ?_
  refine n_bipush (T_X4_init 11 _ _ _ rfl) (by decide) ?_
  refine p_newa (n := n) (i := 3) (kd := 0) (m := 6) hn rfl hz hb (T_X4_init 12 _ _ _ rfl) (Or.inl ⟨rfl, rfl⟩) wa_int rfl ⟨Nat.le_of_ble_eq_true rfl, Nat.le_of_ble_eq_true rfl, Nat.le_of_ble_eq_true rfl, Nat.le_of_ble_eq_true rfl⟩ (tail' := [.inl (4, [n + 1 + 1, n + 2 + 1, 0, 0, 0, 0]), .inr (0, 6), .inr (0, 6), .inr (0, 6)]) rfl ?_
  refine p_putF (n := n) (i := 0) (r := n + 3 + 1) hn (T_X4_init 13 _ _ _ rfl) ff_X4_18 rfl (Nat.le_of_ble_eq_true rfl) rfl (Or.inl ⟨_, rfl⟩) (tail' := [.inl (4, [n + 1 + 1, n + 2 + 1, n + 3 + 1, 0, 0, 0]), .inr (0, 6), .inr (0, 6), .inr (0, 6)]) rfl ?_
  refine n_aload_n (T_X4_init 14 _ _ _ rfl) rfl ?_
  refine n_bipush (T_X4_init 15 _ _ _ rfl) (by decide) ?_
  refine p_newa (n := n) (i := 4) (kd := 0) (m := 6) hn rfl hz hb (T_X4_init 16 _ _ _ rfl) (Or.inl ⟨rfl, rfl⟩) wa_int rfl ⟨Nat.le_of_ble_eq_true rfl, Nat.le_of_ble_eq_true rfl, Nat.le_of_ble_eq_true rfl, Nat.le_of_ble_eq_true rfl⟩ (tail' := [.inl (4, [n + 1 + 1, n + 2 + 1, n + 3 + 1, 0, 0, 0]), .inr (0, 6), .inr (0, 6), .inr (0, 6), .inr (0, 6)]) rfl ?_
  refine p_putF (n := n) (i := 0) (r := n + 4 + 1) hn (T_X4_init 17 _ _ _ rfl) ff_X4_21 rfl (Nat.le_of_ble_eq_true rfl) rfl (Or.inl ⟨_, rfl⟩) (tail' := [.inl (4, [n + 1 + 1, n + 2 + 1, n + 3 + 1, n + 4 + 1, 0, 0]), .inr (0, 6), .inr (0, 6), .inr (0, 6), .inr (0, 6)]) rfl ?_
  exact n_ret (T_X4_init 18 _ _ _ rfl) rfl ⟨rfl, rfl⟩
/-- the ways at first: from a street to itself none are gone, else there is none -/
def hRd (h : Hp) (c p : Nat) : Hp := hS1 h c (fun j => if j < p ∧ ¬ j % 15 = 0 then -2 else 0)
theorem hRd_0 {h : Hp} {c : Nat} (hz : h c = fun _ => 0) : hRd h c 0 = h := by
  unfold hRd
  rw [show (fun j => if j < 0 ∧ ¬ j % 15 = 0 then (-2 : Int) else 0) = fun _ => 0 by funext j; simp]
  exact hS1_id hz
theorem hRd_s {h : Hp} {c p : Nat} {v : Int} (hv : v = if p % 15 = 0 then 0 else -2) : hw (hRd h c p) c p v = hRd h c (p + 1) := by
  funext c' j
  unfold hw hRd hS1
  by_cases h1 : c' = c
  · by_cases h2 : j = p
    · subst h2
      simp only [h1, if_true, true_and, and_self]
      rw [hv]
      by_cases h3 : j % 15 = 0 <;> simp [h3]
    · simp only [h1, h2, if_true, and_false, if_false]
      by_cases h3 : j < p
      · have : j < p + 1 := by omega
        simp [h3, this]
      · have : ¬ j < p + 1 := by omega
        simp [h3, this]
  · simp [h1]
theorem okH_rd {h : Hp} {c p : Nat} (hh : okH h) : okH (hRd h c p) := by
  intro c' j
  unfold hRd hS1
  split
  · show inR (if j < p ∧ ¬ j % 15 = 0 then -2 else 0)
    split <;> exact ⟨by decide, by decide⟩
  · exact hh _ _
set_option maxRecDepth 100000 in
set_option maxHeartbeats 4000000 in
theorem C_X7_loop (pre : List Dsc) (n : Nat) (hn : pre.length = n) (hb : n ≤ 150) (h : Hp) : ∀ (f p : Nat), p ≤ 196 → 196 - p < f → GoC true M_X7_init 2 (pre.length + 4) (szL pre + 592) 33 [some (.inr (n + 1)), some (.inl (p : Int))] [] (pre ++ [.inl (7, [n + 1 + 1, n + 2 + 1, n + 3 + 1, 0]), .inr (0, 196), .inr (0, 196), .inr (0, 196)]) (hRd h (n + 3) p) (fun l2 h2 => l2 = pre ++ [.inl (7, [n + 1 + 1, n + 2 + 1, n + 3 + 1, 0]), .inr (0, 196), .inr (0, 196), .inr (0, 196)] ∧ h2 = hRd h (n + 3) 196)
  | 0, p, _, hf => absurd hf (by omega)
  | f + 1, p, hp, hf => by
    have ih := C_X7_loop pre n hn hb h f
    refine n_iload_n (T_X7_init 16 _ _ _ rfl) rfl ?_
    refine n_sipush (T_X7_init 17 _ _ _ rfl) (by decide) ?_
    refine n_icmp_ge (tgt := 65) (T_X7_init 18 _ _ _ rfl) (by decide) (fun cc => ?_) (fun cc => ?_)
    · have e : p = 196 := by omega
      subst e
      exact n_ret (T_X7_init 32 _ _ _ rfl) rfl ⟨rfl, rfl⟩
    · have st : ∀ v : Int, (v = if p % 15 = 0 then 0 else -2) → GoC true M_X7_init 2 (pre.length + 4) (szL pre + 592) 58 [some (.inr (n + 1)), some (.inl (p : Int))] [.inl v, .inl (p : Int), .inr (n + 4)] (pre ++ [.inl (7, [n + 1 + 1, n + 2 + 1, n + 3 + 1, 0]), .inr (0, 196), .inr (0, 196), .inr (0, 196)]) (hRd h (n + 3) p) (fun l2 h2 => l2 = pre ++ [.inl (7, [n + 1 + 1, n + 2 + 1, n + 3 + 1, 0]), .inr (0, 196), .inr (0, 196), .inr (0, 196)] ∧ h2 = hRd h (n + 3) 196) := by
        intro v hv
        refine n_iast (c := n + 3) (T_X7_init 29 _ _ _ rfl) (lkp hn rfl) ⟨by omega, by omega⟩ ?_
        rw [Int.toNat_natCast, hRd_s hv]
        refine p_iincC (v := ((p + 1 : Nat) : Int)) (T_X7_init 30 _ _ _ rfl) rfl (by decide) (by rw [w32_id ⟨by omega, by omega⟩]; omega) ?_
        refine n_goto (tgt := 33) (T_X7_init 31 _ _ _ rfl) (by decide) ?_
        exact ih (p + 1) (by omega) (by omega)
      refine n_aload_n (T_X7_init 19 _ _ _ rfl) rfl ?_
      refine p_getR (n := n) (i := 0) (r := n + 4) hn (T_X7_init 20 _ _ _ rfl) fl_X7_18 rfl (nR rfl) rfl (by omega) ?_
      refine n_iload_n (T_X7_init 21 _ _ _ rfl) rfl ?_
      refine n_iload_n (T_X7_init 22 _ _ _ rfl) rfl ?_
      refine n_bipush (T_X7_init 23 _ _ _ rfl) (by decide) ?_
      refine n_irem (T_X7_init 24 _ _ _ rfl) (by decide) ?_
      have er : irem (p : Int) 15 = (p : Int) % 15 := irem_pos ⟨by omega, by omega⟩ ⟨by decide, by decide⟩
      rw [er]
      refine n_if_ne (tgt := 56) (T_X7_init 25 _ _ _ rfl) (by decide) (fun cc => ?_) (fun cc => ?_)
      · refine n_bipush (T_X7_init 28 _ _ _ rfl) (by decide) ?_
        exact st (-2) (by rw [if_neg (by omega)])
      · refine n_iconst (T_X7_init 26 _ _ _ rfl) ⟨by decide, by decide⟩ ?_
        refine n_goto (tgt := 58) (T_X7_init 27 _ _ _ rfl) (by decide) ?_
        exact st 0 (by rw [if_pos (by omega)])
set_option maxRecDepth 100000 in
set_option maxHeartbeats 4000000 in
theorem C_X7_init (pre : List Dsc) (n : Nat) (hn : pre.length = n) (hb : n ≤ 150) (h : Hp) (hz : ∀ c, n ≤ c → h c = fun _ => 0) : RunsC true M_X7_init 2 3 588 [.inr (n + 1)] (pre ++ [.inl (7, [0, 0, 0, 0])]) h (fun l2 h2 => l2 = pre ++ [.inl (7, [n + 1 + 1, n + 2 + 1, n + 3 + 1, 0]), .inr (0, 196), .inr (0, 196), .inr (0, 196)] ∧ h2 = hRd h (n + 3) 196) := by
  have hb : n ≤ 200 := by omega
  refine RunsC.of rfl (Nat.le_of_ble_eq_true rfl) (fun l2 h2 hq => ?_) ?_
  · rw [hq.1]
    simp only [List.length_append, szL_ap]
    exact ⟨by simp only [List.length_cons, List.length_nil], by rw [Nat.add_assoc]; rfl⟩
  rw [List.length_append, szL_ap, Nat.add_assoc, Nat.add_assoc]
  show GoC true M_X7_init 2 (pre.length + 4) (szL pre + 592) 0 [some (.inr (n + 1)), none] [] (pre ++ [.inl (7, [0, 0, 0, 0])]) h (fun l2 h2 => l2 = pre ++ [.inl (7, [n + 1 + 1, n + 2 + 1, n + 3 + 1, 0]), .inr (0, 196), .inr (0, 196), .inr (0, 196)] ∧ h2 = hRd h (n + 3) 196)
  refine n_aload_n (T_X7_init 0 _ _ _ rfl) rfl ?_
  refine n_obj (r := n) (T_X7_init 1 _ _ _ rfl) ml_X7_3 wobj (Nat.le_of_ble_eq_true rfl) (by omega) ?_
  refine n_aload_n (T_X7_init 2 _ _ _ rfl) rfl ?_
  refine n_sipush (T_X7_init 3 _ _ _ rfl) (by decide) ?_
  refine p_newa (n := n) (i := 1) (kd := 0) (m := 196) hn rfl hz hb (T_X7_init 4 _ _ _ rfl) (Or.inl ⟨rfl, rfl⟩) wa_int rfl ⟨Nat.le_of_ble_eq_true rfl, Nat.le_of_ble_eq_true rfl, Nat.le_of_ble_eq_true rfl, Nat.le_of_ble_eq_true rfl⟩ (tail' := [.inl (7, [0, 0, 0, 0]), .inr (0, 196)]) rfl ?_
  refine p_putF (n := n) (i := 0) (r := n + 1 + 1) hn (T_X7_init 5 _ _ _ rfl) ff_X7_11 rfl (Nat.le_of_ble_eq_true rfl) rfl (Or.inl ⟨_, rfl⟩) (tail' := [.inl (7, [n + 1 + 1, 0, 0, 0]), .inr (0, 196)]) rfl ?_
  refine n_aload_n (T_X7_init 6 _ _ _ rfl) rfl ?_
  refine n_sipush (T_X7_init 7 _ _ _ rfl) (by decide) ?_
  refine p_newa (n := n) (i := 2) (kd := 0) (m := 196) hn rfl hz hb (T_X7_init 8 _ _ _ rfl) (Or.inl ⟨rfl, rfl⟩) wa_int rfl ⟨Nat.le_of_ble_eq_true rfl, Nat.le_of_ble_eq_true rfl, Nat.le_of_ble_eq_true rfl, Nat.le_of_ble_eq_true rfl⟩ (tail' := [.inl (7, [n + 1 + 1, 0, 0, 0]), .inr (0, 196), .inr (0, 196)]) rfl ?_
  refine p_putF (n := n) (i := 0) (r := n + 2 + 1) hn (T_X7_init 9 _ _ _ rfl) ff_X7_15 rfl (Nat.le_of_ble_eq_true rfl) rfl (Or.inl ⟨_, rfl⟩) (tail' := [.inl (7, [n + 1 + 1, n + 2 + 1, 0, 0]), .inr (0, 196), .inr (0, 196)]) rfl ?_
  refine n_aload_n (T_X7_init 10 _ _ _ rfl) rfl ?_
  refine n_sipush (T_X7_init 11 _ _ _ rfl) (by decide) ?_
  refine p_newa (n := n) (i := 3) (kd := 0) (m := 196) hn rfl hz hb (T_X7_init 12 _ _ _ rfl) (Or.inl ⟨rfl, rfl⟩) wa_int rfl ⟨Nat.le_of_ble_eq_true rfl, Nat.le_of_ble_eq_true rfl, Nat.le_of_ble_eq_true rfl, Nat.le_of_ble_eq_true rfl⟩ (tail' := [.inl (7, [n + 1 + 1, n + 2 + 1, 0, 0]), .inr (0, 196), .inr (0, 196), .inr (0, 196)]) rfl ?_
  refine p_putF (n := n) (i := 0) (r := n + 3 + 1) hn (T_X7_init 13 _ _ _ rfl) ff_X7_18 rfl (Nat.le_of_ble_eq_true rfl) rfl (Or.inl ⟨_, rfl⟩) (tail' := [.inl (7, [n + 1 + 1, n + 2 + 1, n + 3 + 1, 0]), .inr (0, 196), .inr (0, 196), .inr (0, 196)]) rfl ?_
  refine n_iconst (T_X7_init 14 _ _ _ rfl) ⟨by decide, by decide⟩ ?_
  refine n_istore_n (T_X7_init 15 _ _ _ rfl) (by decide) ?_
  have e := C_X7_loop pre n hn (by omega) h 197 0 (by omega) (by omega)
  rw [hRd_0 (hz _ (by omega))] at e
  exact e
