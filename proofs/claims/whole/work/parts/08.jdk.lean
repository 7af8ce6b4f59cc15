section JDK
variable {M : Mth} {d pc : Nat} {loc : List (Option PV)} {st : List PV} {h : Hp} {Q : Option PV → Hp → Prop}
def imax (x y : Int) : Int := if x < y then y else x
def imin (x y : Int) : Int := if y < x then y else x
theorem g_max {idx : Nat} {x y : Int} (hdg : decode M.2.1 pc = .ok (.invokestatic idx, 3)) (hlk : Cond.methodLink M.1.cls idx Lib.Math.max.name ∈ WS) (hw : Cond.static Lib.Math.max.name ∈ WS ∧ Cond.initialized "java/lang/Math" ∈ WS ∧ Cond.code Lib.Math.max.name Lib.Math.max.code 2 (some .int) ∈ WS) (hst : st.length ≤ 8) (hd : 1 ≤ d) (kk : Go M d (pc + 3) loc (.inl (imax x y) :: st) h Q) : Go M d pc loc (.inl y :: .inl x :: st) h Q := by
  intro p l e R s m args below meth cd b D cA k0 z H locs ls Z hcx hR hS hL hs hh hF
  obtain ⟨x1, x2, x3, x4, x5, x6, x7, x8, x9, x10, x11, x12, x13⟩ := id hcx
  have hx : inR x := hs.tl.hd
  have hy : inR y := hs.hd
  have k2 := kk p l e R s m args below meth cd b D cA k0 z H locs ls Z hcx hR hS hL (hs.tl.tl.cons (by show inR (imax x y); unfold imax; split; exact hy; exact hx)) hh hF
  refine va_mmax x1 x2 (by rw [x4]; exact hL.1.symm) x5 (x6 _ hlk) (x6 _ hw.1) (x6 _ hw.2.1) (x6 _ hw.2.2) (by omega) (by have := room_of (b := b) hst; omega) x12 x13 hdg ?_
  have e : (if Int32.ofInt x < Int32.ofInt y then Int32.ofInt y else Int32.ofInt x) = Int32.ofInt (imax x y) := by
    unfold imax
    by_cases c : x < y
    · rw [if_pos c, if_pos ((lt_of hx hy).mpr c)]
    · rw [if_neg c, if_neg (fun q => c ((lt_of hx hy).mp q))]
  rw [e]
  exact k2
theorem g_min {idx : Nat} {x y : Int} (hdg : decode M.2.1 pc = .ok (.invokestatic idx, 3)) (hlk : Cond.methodLink M.1.cls idx Lib.Math.min.name ∈ WS) (hw : Cond.static Lib.Math.min.name ∈ WS ∧ Cond.initialized "java/lang/Math" ∈ WS ∧ Cond.code Lib.Math.min.name Lib.Math.min.code 2 (some .int) ∈ WS) (hst : st.length ≤ 8) (hd : 1 ≤ d) (kk : Go M d (pc + 3) loc (.inl (imin x y) :: st) h Q) : Go M d pc loc (.inl y :: .inl x :: st) h Q := by
  intro p l e R s m args below meth cd b D cA k0 z H locs ls Z hcx hR hS hL hs hh hF
  obtain ⟨x1, x2, x3, x4, x5, x6, x7, x8, x9, x10, x11, x12, x13⟩ := id hcx
  have hx : inR x := hs.tl.hd
  have hy : inR y := hs.hd
  have k2 := kk p l e R s m args below meth cd b D cA k0 z H locs ls Z hcx hR hS hL (hs.tl.tl.cons (by show inR (imin x y); unfold imin; split; exact hy; exact hx)) hh hF
  refine va_mmin x1 x2 (by rw [x4]; exact hL.1.symm) x5 (x6 _ hlk) (x6 _ hw.1) (x6 _ hw.2.1) (x6 _ hw.2.2) (by omega) (by have := room_of (b := b) hst; omega) x12 x13 hdg ?_
  have e : (if Int32.ofInt y < Int32.ofInt x then Int32.ofInt y else Int32.ofInt x) = Int32.ofInt (imin x y) := by
    unfold imin
    by_cases c : y < x
    · rw [if_pos c, if_pos ((lt_of hy hx).mpr c)]
    · rw [if_neg c, if_neg (fun q => c ((lt_of hy hx).mp q))]
  rw [e]
  exact k2
/-- a stretch of an array copied into another's -/
def hcp (h : Hp) (c0 sp c1 dp n : Nat) : Hp := fun c j => if c = c1 ∧ dp ≤ j ∧ j < dp + n then h c0 (sp + (j - dp)) else h c j
theorem hcp_S1 (h : Hp) (c0 sp c1 dp n : Nat) : hcp h c0 sp c1 dp n = hS1 h c1 (fun j => if dp ≤ j ∧ j < dp + n then h c0 (sp + (j - dp)) else h c1 j) := by
  funext c j
  by_cases h1 : c = c1
  · subst h1; simp [hcp, hS1]
  · simp [hcp, hS1, h1]
theorem g_copy {idx c0 c1 n0 n1 : Nat} {sp dp n : Int} (hdg : decode M.2.1 pc = .ok (.invokestatic idx, 3)) (hlk : Cond.methodLink M.1.cls idx arraycopyName ∈ WS) (hw : Cond.native arraycopyName ∈ WS ∧ Cond.static arraycopyName ∈ WS ∧ Cond.initialized "java/lang/System" ∈ WS) (hc0 : L0[c0]? = some (.inr (0, n0))) (hc1 : L0[c1]? = some (.inr (0, n1))) (hb : 0 ≤ sp ∧ 0 ≤ dp ∧ 0 ≤ n ∧ sp + n ≤ n0 ∧ dp + n ≤ n1) (hst : st.length ≤ 8) (hd : 1 ≤ d)
    (kk : Go M d (pc + 3) loc st (hcp h c0 sp.toNat c1 dp.toNat n.toNat) Q) : Go M d pc loc (.inl n :: .inl dp :: .inr (c1 + 1) :: .inl sp :: .inr (c0 + 1) :: st) h Q := by
  intro p l e R s m args below meth cd b D cA k0 z H locs ls Z hcx hR hS hL hs hh hF
  obtain ⟨x1, x2, x3, x4, x5, x6, x7, x8, x9, x10, x11, x12, x13⟩ := id hcx
  have hn : inR n := hs.hd
  have hdp : inR dp := hs.tl.hd
  have hsp : inR sp := hs.tl.tl.tl.hd
  simp only [List.map_cons, cV_s]
  have lt0 : ∀ {q : Int}, inR q → 0 ≤ q → ¬ Int32.ofInt q < 0 := fun hq h0 c => by
    have := (lt_of hq inR_0).mp c
    omega
  have hb8 := room_of (b := b) hst
  have hnw : nativeFrameWords "java/lang/System" "arraycopy" 5 ≤ 30 := by decide
  refine va_copyi (rest := st.map (cV b)) x1 x2 (by rw [x4]; exact hL.1.symm) x5 (x6 _ hlk) (x6 _ hw.1) (x6 _ hw.2.1) (x6 _ hw.2.2) x8 hR wd_D hS c0 c1 0 0 (wd_get hc0) (wd_get hc1) rfl rfl rfl (lt0 hsp hb.1) (lt0 hdp hb.2.1) (lt0 hn hb.2.2.1) (by rw [cl_of hsp, cl_of hn]; omega) (by rw [cl_of hdp, cl_of hn]; omega) (fun _ _ => rfl) (by omega) (by omega) hdg fun H1 locs1 hP1 _ hS1 => ?_
  refine kk p l e R s m args below meth cd b D cA k0 z H1 locs1 ls Z hcx ?_ hS1 hL hs.tl.tl.tl.tl.tl ?_ hF
  · rw [cl_of hsp, cl_of hdp, cl_of hn] at hP1
    rw [hcp_S1]
    rw [wd_set hc1 (f := fun j => if dp.toNat ≤ j ∧ j < dp.toNat + n.toNat then h c0 (sp.toNat + (j - dp.toNat)) else h c1 j) ?_] at hP1
    · exact hP1
    · show Sum.inl _ = Sum.inl _
      congr 4
      funext j
      unfold va_cpy
      by_cases hq : dp.toNat ≤ j ∧ j < dp.toNat + n.toNat
      · simp only [if_pos hq]
      · simp only [if_neg hq]
  · intro c j
    unfold hcp
    split
    · exact hh _ _
    · exact hh _ _
theorem g_tswOut {dflt lo hi x : Int} {offs : Array Int} {len tgt : Nat} (hdg : decode M.2.1 pc = .ok (.tableswitch dflt lo hi offs, len)) (hx : x < lo ∨ hi < x) (ht : (pc : Int) + dflt = (tgt : Int)) (kk : Go M d tgt loc st h Q) : Go M d pc loc (.inl x :: st) h Q := by
  intro p l e R s m args below meth cd b D cA k0 z H locs ls Z hcx hR hS hL hs hh hF
  have ex : (Int32.ofInt x).toInt = x := toR hs.hd
  exact lv_tableOut hcx.1 hcx.2.1 hdg (by rw [ex]; exact hx) ht (kk p l e R s m args below meth cd b D cA k0 z H locs ls Z hcx hR hS hL hs.tl hh hF)
theorem g_tswIn {dflt lo hi x off : Int} {offs : Array Int} {len tgt : Nat} (hdg : decode M.2.1 pc = .ok (.tableswitch dflt lo hi offs, len)) (h1 : ¬ x < lo) (h2 : ¬ hi < x) (ho : offs[(x - lo).toNat]? = some off) (ht : (pc : Int) + off = (tgt : Int)) (kk : Go M d tgt loc st h Q) : Go M d pc loc (.inl x :: st) h Q := by
  intro p l e R s m args below meth cd b D cA k0 z H locs ls Z hcx hR hS hL hs hh hF
  have ex : (Int32.ofInt x).toInt = x := toR hs.hd
  exact lv_tableIn hcx.1 hcx.2.1 hdg (by rw [ex]; exact h1) (by rw [ex]; exact h2) (by rw [ex]; exact ho) ht (kk p l e R s m args below meth cd b D cA k0 z H locs ls Z hcx hR hS hL hs.tl hh hF)
theorem g_lsw {dflt x off : Int} {ps : Array (Int × Int)} {len tgt : Nat} (hdg : decode M.2.1 pc = .ok (.lookupswitch dflt ps, len)) (hp : (ps.toList.zip (ps.toList.drop 1)).all (fun (a, next) => a.1 < next.1) = true) (ho : Op.lookupswitch.offset ps.toList dflt x = off) (ht : (pc : Int) + off = (tgt : Int)) (kk : Go M d tgt loc st h Q) : Go M d pc loc (.inl x :: st) h Q := by
  intro p l e R s m args below meth cd b D cA k0 z H locs ls Z hcx hR hS hL hs hh hF
  have ex : (Int32.ofInt x).toInt = x := toR hs.hd
  exact lv_lookup hcx.1 hcx.2.1 hdg hp (by rw [ex]; exact ho) ht (kk p l e R s m args below meth cd b D cA k0 z H locs ls Z hcx hR hS hL hs.tl hh hF)
end JDK
