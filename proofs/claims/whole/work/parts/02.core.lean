/-! THE PURE MACHINE'S WORDS: numbers are Int (in range), a reference is a number of a cell plus one (0: null), the heap a function of cell and place -/
abbrev PV : Type := Int ⊕ Nat
abbrev Hp : Type := Nat → Nat → Int
abbrev Dsc : Type := (Nat × List Nat) ⊕ (Nat × Nat)
abbrev Mth : Type := MethodName × ByteArray × Nat × Option FieldType
def w32 (x : Int) : Int := x.bmod 4294967296
def inR (x : Int) : Prop := -2147483648 ≤ x ∧ x < 2147483648
theorem inR_w (x : Int) : inR (w32 x) := by
  unfold inR w32
  have h1 := Int.le_bmod (x := x) (m := 4294967296) (by omega)
  have h2 := Int.bmod_lt (x := x) (m := 4294967296) (by omega)
  omega
theorem w32_id {x : Int} (h : -2147483648 ≤ x ∧ x < 2147483648) : w32 x = x := Int.bmod_eq_of_le (by omega) (by omega)
theorem ofw (x : Int) : Int32.ofInt (w32 x) = Int32.ofInt x := Int32.toInt_inj.1 (by simp [w32])
theorem toR {x : Int} (h : inR x) : (Int32.ofInt x).toInt = x := Int32.toInt_ofInt_of_le h.1 h.2
theorem inR_t (x : Int32) : inR x.toInt := ⟨x.le_toInt, x.toInt_lt⟩
theorem lt_of {x y : Int} (hx : inR x) (hy : inR y) : (Int32.ofInt x < Int32.ofInt y) ↔ x < y := by rw [Int32.lt_iff_toInt_lt, toR hx, toR hy]
theorem le_of {x y : Int} (hx : inR x) (hy : inR y) : (Int32.ofInt x ≤ Int32.ofInt y) ↔ x ≤ y := by rw [Int32.le_iff_toInt_le, toR hx, toR hy]
theorem eq_of {x y : Int} (hx : inR x) (hy : inR y) : (Int32.ofInt x = Int32.ofInt y) ↔ x = y := by rw [← Int32.toInt_inj, toR hx, toR hy]
theorem inR_0 : inR 0 := ⟨by decide, by decide⟩
theorem of0 : Int32.ofInt 0 = 0 := rfl
theorem cl_of {x : Int} (h : inR x) : (Int32.ofInt x).toNatClampNeg = x.toNat := Int32.toNatClampNeg_ofInt_of_le h.1 h.2
theorem vp_of {i : Int} {n : Nat} (h : inR i) (h0 : 0 ≤ i ∧ i < n) : vp_in (Int32.ofInt i) n := by rw [vp_in_iff, toR h]; exact h0
/-- bits, as the machine has them -/
def iand (x y : Int) : Int := (Int32.ofInt x &&& Int32.ofInt y).toInt
def ior (x y : Int) : Int := (Int32.ofInt x ||| Int32.ofInt y).toInt
def ixor (x y : Int) : Int := (Int32.ofInt x ^^^ Int32.ofInt y).toInt
def ishl (x y : Int) : Int := (Int32.ofInt x <<< (Int32.ofInt y &&& 31)).toInt
def ishr (x y : Int) : Int := (Int32.ofInt x >>> (Int32.ofInt y &&& 31)).toInt
def iushr (x y : Int) : Int := ((Int32.ofInt x).toUInt32 >>> ((Int32.ofInt y).toUInt32 &&& Int32.toUInt32 31)).toInt32.toInt
def i2b (x : Int) : Int := (Int32.ofInt x).toInt8.toInt32.toInt
def i2c (x : Int) : Int := ((Int32.ofInt x).toUInt32 % 65536).toInt32.toInt
def idiv (x y : Int) : Int := (Int32.ofInt x / Int32.ofInt y).toInt
def irem (x y : Int) : Int := (Int32.ofInt x - Int32.ofInt x / Int32.ofInt y * Int32.ofInt y).toInt
/-- references and values at the base b -/
def cR (b r : Nat) : Option Nat := if r = 0 then none else some (b + (r - 1))
def cV (b : Nat) : PV → Value
  | .inl x => .int (Int32.ofInt x)
  | .inr r => va_rf (cR b r)
def okV : PV → Prop
  | .inl x => inR x
  | .inr r => r ≤ 1000
def okH (h : Hp) : Prop := ∀ c j, inR (h c j)
theorem cV_cat (b : Nat) (v : PV) : (cV b v).category = 1 := by
  cases v with
  | inl x => rfl
  | inr r =>
    show (va_rf (cR b r)).category = 1
    unfold cR
    split <;> rfl
theorem cV_s (b c : Nat) : cV b (.inr (c + 1)) = .ref (b + c) := by simp [cV, cR, va_rf]
theorem cV_0 (b : Nat) : cV b (.inr 0) = .null := by simp [cV, cR, va_rf]
/-- the fields' kinds: by class -/
def nF : Nat → Nat
  | 0 => 5 | 1 => 13 | 2 => 12 | 3 => 1 | 4 => 6 | 5 => 16 | 6 => 7 | 7 => 4 | 8 => 5 | 9 => 9 | 10 => 6 | 11 => 12 | _ => 59
def tyF : Nat → Nat → FieldType
  | 0 => tyX0 | 1 => tyX1 | 2 => tyX2 | 3 => tyX3 | 4 => tyX4 | 5 => tyX5 | 6 => tyX6 | 7 => tyX7 | 8 => tyX8 | 9 => tyX9 | 10 => tyX10 | 11 => tyX11 | _ => tyX12
def fV (b : Nat) (ty : FieldType) (x : Int) (r : Nat) : Value := match ty with
  | .int => .int (Int32.ofInt x)
  | .boolean => .int (Int32.ofInt x)
  | _ => va_rf (cR b r)
def cE (b : Nat) (cA : Nat → ClassId) (d : Dsc) (f : Nat → Int) : va_E := match d with
  | .inl (ci, rs) => .inr (ci, (List.range (nF ci)).map fun j => fV b (tyF ci j) (f j) (rs.getD j 0))
  | .inr (3, n) => .inl (cA 3, n, .inr (.inr (.inr (.inr fun j => cR b (f j).toNat))))
  | .inr (k, n) => .inl (cA k, n, .inl fun j => Int32.ofInt (f j))
def wd (b : Nat) (cA : Nat → ClassId) (lay : List Dsc) (h : Hp) : va_W := (List.range lay.length).map fun c => (b + c, cE b cA (lay.getD c (.inr (0, 0))) (h c))
theorem wd_get {b : Nat} {cA : Nat → ClassId} {lay : List Dsc} {h : Hp} {c : Nat} {d : Dsc} (hd : lay[c]? = some d) : (wd b cA lay h)[c]? = some (b + c, cE b cA d (h c)) := by
  obtain ⟨hl, he⟩ := List.getElem?_eq_some_iff.mp hd
  simp [wd, hl, List.getD, hd, he]
def hS1 (h : Hp) (c : Nat) (f : Nat → Int) : Hp := fun c' => if c' = c then f else h c'
def hw (h : Hp) (c j : Nat) (v : Int) : Hp := fun c' j' => if c' = c ∧ j' = j then v else h c' j'
theorem wd_set {b : Nat} {cA : Nat → ClassId} {lay : List Dsc} {h : Hp} {c : Nat} {d : Dsc} (hd : lay[c]? = some d) {f : Nat → Int} {e : va_E} (he : e = cE b cA d f) : (wd b cA lay h).set c (b + c, e) = wd b cA lay (hS1 h c f) := by
  subst he
  obtain ⟨hl, he⟩ := List.getElem?_eq_some_iff.mp hd
  apply List.ext_getElem?
  intro k
  by_cases hk : k = c
  · subst hk
    rw [List.getElem?_set_self (by simp [wd, hl]), wd_get hd]
    simp [hS1]
  · rw [List.getElem?_set_ne (Ne.symm hk)]
    by_cases hkl : k < lay.length
    · rw [wd_get (List.getElem?_eq_getElem hkl), wd_get (List.getElem?_eq_getElem hkl)]
      simp [hS1, hk]
    · rw [List.getElem?_eq_none (by simp [wd]; omega), List.getElem?_eq_none (by simp [wd]; omega)]
theorem wd_D {b : Nat} {cA : Nat → ClassId} {lay : List Dsc} {h : Hp} : va_D (fun q => b ≤ q) (wd b cA lay h) := by
  have key : ∀ (k : Nat) (q : Nat × va_E), (wd b cA lay h)[k]? = some q → q.1 = b + k := by
    intro k q hk
    by_cases hkl : k < lay.length
    · rw [wd_get (List.getElem?_eq_getElem hkl)] at hk
      cases hk; rfl
    · rw [List.getElem?_eq_none (by simp [wd]; omega)] at hk
      cases hk
  refine ⟨fun i j x y hi hj hxy => ?_, fun k q hk => ?_⟩
  · have h1 := key i x hi
    have h2 := key j y hj
    omega
  · rw [key k q hk]; omega
theorem hw_S1 (h : Hp) (c j : Nat) (v : Int) : hw h c j v = hS1 h c (fun j' => if j' = j then v else h c j') := by
  funext c' j'
  by_cases h1 : c' = c
  · subst h1; simp [hw, hS1]
  · simp [hw, hS1, h1]
theorem okH_w {h : Hp} {c j : Nat} {v : Int} (hh : okH h) (hv : inR v) : okH (hw h c j v) := by
  intro c' j'
  unfold hw
  split
  · exact hv
  · exact hh c' j'
