/-! WORDS IN WHICH THE METHODS ARE TOLD AS FUNCTIONS, AND WHAT A WALK NEEDS OF THEM -/
def bnd {α β : Type} (x : α) (f : α → Option β) : Option β := f x
def grd {β : Type} (c : Prop) [Decidable c] (x : Option β) : Option β := if c then x else none
def bd {α β : Type} (x : Option (α × Hp)) (f : α → Hp → Option β) : Option β := x.bind fun q => f q.1 q.2
def bv {β : Type} (x : Option Hp) (f : Hp → Option β) : Option β := x.bind f
theorem grd_some {β : Type} {c : Prop} [Decidable c] {x : Option β} {r : β} (H : grd c x = some r) : c ∧ x = some r := by
  unfold grd at H
  split at H
  · exact ⟨by assumption, H⟩
  · cases H
theorem bd_some {α β : Type} {x : Option (α × Hp)} {f : α → Hp → Option β} {r : β} (H : bd x f = some r) : ∃ (a : α) (h : Hp), x = some (a, h) ∧ f a h = some r := by
  unfold bd at H
  cases x with
  | none => cases H
  | some q => exact ⟨q.1, q.2, rfl, H⟩
theorem bv_some {β : Type} {x : Option Hp} {f : Hp → Option β} {r : β} (H : bv x f = some r) : ∃ h : Hp, x = some h ∧ f h = some r := by
  unfold bv at H
  cases x with
  | none => cases H
  | some q => exact ⟨q, rfl, H⟩
theorem ite_p {β : Type} {c : Prop} [Decidable c] {a b r : β} (hc : c) (H : (if c then a else b) = r) : a = r := by rwa [if_pos hc] at H
theorem ite_n {β : Type} {c : Prop} [Decidable c] {a b r : β} (hc : ¬ c) (H : (if c then a else b) = r) : b = r := by rwa [if_neg hc] at H
def Qi (res : Int × Hp) : Option PV → Hp → Prop := fun r h => r = some (.inl res.1) ∧ h = res.2
def Qr (res : Nat × Hp) : Option PV → Hp → Prop := fun r h => r = some (.inr res.1) ∧ h = res.2
def Qv (res : Hp) : Option PV → Hp → Prop := fun r h => r = none ∧ h = res
theorem qi_of {v : Int} {h : Hp} {res : Int × Hp} (H : some (v, h) = some res) : Qi res (some (.inl v)) h := by cases H; exact ⟨rfl, rfl⟩
theorem qr_of {v : Nat} {h : Hp} {res : Nat × Hp} (H : some (v, h) = some res) : Qr res (some (.inr v)) h := by cases H; exact ⟨rfl, rfl⟩
theorem qv_of {h : Hp} {res : Hp} (H : some h = some res) : Qv res none h := by cases H; exact ⟨rfl, rfl⟩
def isRf : FieldType → Bool
  | .int => false
  | .boolean => false
  | _ => true
theorem nR {ty : FieldType} (h : isRf ty = true) : ¬ ty = .int ∧ ¬ ty = .boolean := ⟨fun q => by (rw [q] at h; cases h), fun q => by (rw [q] at h; cases h)⟩
def wk : List (Option PV) → List Bool → List (Option PV)
  | [], _ => []
  | v :: l, [] => v :: l
  | v :: l, true :: m => v :: wk l m
  | _ :: l, false :: m => none :: wk l m
theorem wk_len : ∀ (l : List (Option PV)) (m : List Bool), (wk l m).length = l.length
  | [], _ => rfl
  | v :: l, [] => rfl
  | v :: l, true :: m => by simp [wk, wk_len l m]
  | v :: l, false :: m => by simp [wk, wk_len l m]
theorem wk_get : ∀ (l : List (Option PV)) (m : List Bool) (i : Nat) (v : PV), (wk l m)[i]? = some (some v) → l[i]? = some (some v)
  | [], _, i, v, h => by simp [wk] at h
  | w :: l, [], i, v, h => h
  | w :: l, true :: m, 0, v, h => h
  | w :: l, true :: m, i + 1, v, h => by
    simp only [wk, List.getElem?_cons_succ] at h ⊢
    exact wk_get l m i v h
  | w :: l, false :: m, 0, v, h => by simp [wk] at h
  | w :: l, false :: m, i + 1, v, h => by
    simp only [wk, List.getElem?_cons_succ] at h ⊢
    exact wk_get l m i v h
abbrev cartR (r : Nat) : Prop := r = 22 ∨ r = 26 ∨ r = 30 ∨ r = 34 ∨ r = 38 ∨ r = 54
abbrev refOK (r : Nat) : Prop := r = 0 ∨ cartR r
def isCart (t : Nat) : Prop := t ≤ 60 ∧ L0[t]? = some (.inl (0, [t + 2, t + 3, t + 4, 0, 0])) ∧ L0[t + 1]? = some (.inr (0, 16)) ∧ L0[t + 2]? = some (.inr (0, 16)) ∧ L0[t + 3]? = some (.inr (2, 16))
theorem cartR_spec {r : Nat} (h : cartR r) : ∃ t, r = t + 1 ∧ isCart t := by
  rcases h with rfl | rfl | rfl | rfl | rfl | rfl
  · exact ⟨21, rfl, by decide, rfl, rfl, rfl, rfl⟩
  · exact ⟨25, rfl, by decide, rfl, rfl, rfl, rfl⟩
  · exact ⟨29, rfl, by decide, rfl, rfl, rfl, rfl⟩
  · exact ⟨33, rfl, by decide, rfl, rfl, rfl, rfl⟩
  · exact ⟨37, rfl, by decide, rfl, rfl, rfl, rfl⟩
  · exact ⟨53, rfl, by decide, rfl, rfl, rfl, rfl⟩
theorem refOK_spec {r : Nat} (h : refOK r) : r = 0 ∨ ∃ q rs, r = q + 1 ∧ L0[q]? = some (.inl (0, rs)) := by
  rcases h with h | h
  · exact Or.inl h
  · obtain ⟨t, rfl, h1⟩ := cartR_spec h
    exact Or.inr ⟨t, _, rfl, h1.2.1⟩
theorem isCart53 : isCart 53 := ⟨by decide, rfl, rfl, rfl, rfl⟩
section DEC
variable {M : Mth} {d pc : Nat} {loc : List (Option PV)} {st : List PV} {h : Hp} {Q : Option PV → Hp → Prop}
theorem g_weak (mask : List Bool) (k : Go M d pc (wk loc mask) st h Q) : Go M d pc loc st h Q := by
  intro p l e R s m args below meth c b D cA k0 z H locs ls Z hcx hR hS hL hs hh hF
  exact k p l e R s m args below meth c b D cA k0 z H locs ls Z hcx hR hS ⟨hL.1, hL.2.1, by rw [wk_len]; exact hL.2.2.1, fun i v hi => hL.2.2.2 i v (wk_get _ _ _ _ hi)⟩ hs hh hF
theorem g_bndI {β : Type} {x : Int} {f : Int → Option β} {r : Option β} (H : bnd x f = r) (k : ∀ y, f y = r → Go M d pc loc (.inl y :: st) h Q) : Go M d pc loc (.inl x :: st) h Q := k x H
theorem g_bndR {β : Type} {x : Nat} {f : Nat → Option β} {r : Option β} (H : bnd x f = r) (k : ∀ y, f y = r → Go M d pc loc (.inr y :: st) h Q) : Go M d pc loc (.inr x :: st) h Q := k x H
theorem g_bndH {β : Type} {x : Hp} {f : Hp → Option β} {r : Option β} (H : bnd x f = r) (k : ∀ y, f y = r → Go M d pc loc st y Q) : Go M d pc loc st x Q := k x H
theorem g_iincB {β : Type} {i : Nat} {n x : Int} {f : Int → Option β} {r : Option β} (hdg : decode M.2.1 pc = .ok (.iinc i n, 3)) (hl : loc[i]? = some (some (.inl x))) (hi : i < M.2.2.1) (H : bnd (w32 (x + n)) f = r) (k : ∀ y, f y = r → Go M d (pc + 3) (loc.set i (some (.inl y))) st h Q) : Go M d pc loc st h Q := g_iinc hdg hl hi (k _ H)
theorem g_callVi {M' : Mth} {d' idx n : Nat} {av : List PV} {ci c : Nat} {rs : List Nat} {r : Int} {h1 : Hp} (hdg : decode M.2.1 pc = .ok (.invokevirtual idx, 3)) (hlk : Cond.methodLink M.1.cls idx M'.1 ∈ WS) (hcb : CBv M' ci n) (hc : L0[c]? = some (.inl (ci, rs))) (hn : av.length = n) (hst : st.length ≤ 8) (hd : d' + 1 ≤ d) (hrun : Runs M' d' (.inr (c + 1) :: av) h (Qi (r, h1))) (kk : Go M d (pc + 3) loc (.inl r :: st) h1 Q) : Go M d pc loc (av.reverse ++ .inr (c + 1) :: st) h Q :=
  g_callV hdg hlk hcb hc hn hst hd hrun (fun r h' hq => by obtain ⟨rfl, rfl⟩ := hq; exact kk)
theorem g_callVr {M' : Mth} {d' idx n : Nat} {av : List PV} {ci c : Nat} {rs : List Nat} {r : Nat} {h1 : Hp} (hdg : decode M.2.1 pc = .ok (.invokevirtual idx, 3)) (hlk : Cond.methodLink M.1.cls idx M'.1 ∈ WS) (hcb : CBv M' ci n) (hc : L0[c]? = some (.inl (ci, rs))) (hn : av.length = n) (hst : st.length ≤ 8) (hd : d' + 1 ≤ d) (hrun : Runs M' d' (.inr (c + 1) :: av) h (Qr (r, h1))) (kk : Go M d (pc + 3) loc (.inr r :: st) h1 Q) : Go M d pc loc (av.reverse ++ .inr (c + 1) :: st) h Q :=
  g_callV hdg hlk hcb hc hn hst hd hrun (fun r h' hq => by obtain ⟨rfl, rfl⟩ := hq; exact kk)
theorem g_callVv {M' : Mth} {d' idx n : Nat} {av : List PV} {ci c : Nat} {rs : List Nat} {h1 : Hp} (hdg : decode M.2.1 pc = .ok (.invokevirtual idx, 3)) (hlk : Cond.methodLink M.1.cls idx M'.1 ∈ WS) (hcb : CBv M' ci n) (hc : L0[c]? = some (.inl (ci, rs))) (hn : av.length = n) (hst : st.length ≤ 8) (hd : d' + 1 ≤ d) (hrun : Runs M' d' (.inr (c + 1) :: av) h (Qv h1)) (kk : Go M d (pc + 3) loc st h1 Q) : Go M d pc loc (av.reverse ++ .inr (c + 1) :: st) h Q :=
  g_callV hdg hlk hcb hc hn hst hd hrun (fun r h' hq => by obtain ⟨rfl, rfl⟩ := hq; exact kk)
theorem g_callSi {M' : Mth} {d' idx n : Nat} {av : List PV} {r : Int} {h1 : Hp} (hdg : decode M.2.1 pc = .ok (.invokestatic idx, 3)) (hlk : Cond.methodLink M.1.cls idx M'.1 ∈ WS) (hcb : CBs M' n) (hn : av.length = n) (hst : st.length ≤ 8) (hd : d' + 1 ≤ d) (hrun : Runs M' d' (av) h (Qi (r, h1))) (kk : Go M d (pc + 3) loc (.inl r :: st) h1 Q) : Go M d pc loc (av.reverse ++ st) h Q :=
  g_callS hdg hlk hcb hn hst hd hrun (fun r h' hq => by obtain ⟨rfl, rfl⟩ := hq; exact kk)
theorem g_callSr {M' : Mth} {d' idx n : Nat} {av : List PV} {r : Nat} {h1 : Hp} (hdg : decode M.2.1 pc = .ok (.invokestatic idx, 3)) (hlk : Cond.methodLink M.1.cls idx M'.1 ∈ WS) (hcb : CBs M' n) (hn : av.length = n) (hst : st.length ≤ 8) (hd : d' + 1 ≤ d) (hrun : Runs M' d' (av) h (Qr (r, h1))) (kk : Go M d (pc + 3) loc (.inr r :: st) h1 Q) : Go M d pc loc (av.reverse ++ st) h Q :=
  g_callS hdg hlk hcb hn hst hd hrun (fun r h' hq => by obtain ⟨rfl, rfl⟩ := hq; exact kk)
theorem g_callSv {M' : Mth} {d' idx n : Nat} {av : List PV} {h1 : Hp} (hdg : decode M.2.1 pc = .ok (.invokestatic idx, 3)) (hlk : Cond.methodLink M.1.cls idx M'.1 ∈ WS) (hcb : CBs M' n) (hn : av.length = n) (hst : st.length ≤ 8) (hd : d' + 1 ≤ d) (hrun : Runs M' d' (av) h (Qv h1)) (kk : Go M d (pc + 3) loc st h1 Q) : Go M d pc loc (av.reverse ++ st) h Q :=
  g_callS hdg hlk hcb hn hst hd hrun (fun r h' hq => by obtain ⟨rfl, rfl⟩ := hq; exact kk)
theorem g_callSNi {M' : Mth} {d' idx n : Nat} {av : List PV} {host : String} {r : Int} {h1 : Hp} (hdg : decode M.2.1 pc = .ok (.invokestatic idx, 3)) (hlk : Cond.methodLinkNest M.1.cls idx M'.1 host ∈ NW) (hcb : CBs M' n) (hn : av.length = n) (hst : st.length ≤ 8) (hd : d' + 1 ≤ d) (hrun : Runs M' d' (av) h (Qi (r, h1))) (kk : Go M d (pc + 3) loc (.inl r :: st) h1 Q) : Go M d pc loc (av.reverse ++ st) h Q :=
  g_callSN hdg hlk hcb hn hst hd hrun (fun r h' hq => by obtain ⟨rfl, rfl⟩ := hq; exact kk)
theorem g_callSNr {M' : Mth} {d' idx n : Nat} {av : List PV} {host : String} {r : Nat} {h1 : Hp} (hdg : decode M.2.1 pc = .ok (.invokestatic idx, 3)) (hlk : Cond.methodLinkNest M.1.cls idx M'.1 host ∈ NW) (hcb : CBs M' n) (hn : av.length = n) (hst : st.length ≤ 8) (hd : d' + 1 ≤ d) (hrun : Runs M' d' (av) h (Qr (r, h1))) (kk : Go M d (pc + 3) loc (.inr r :: st) h1 Q) : Go M d pc loc (av.reverse ++ st) h Q :=
  g_callSN hdg hlk hcb hn hst hd hrun (fun r h' hq => by obtain ⟨rfl, rfl⟩ := hq; exact kk)
theorem g_callSNv {M' : Mth} {d' idx n : Nat} {av : List PV} {host : String} {h1 : Hp} (hdg : decode M.2.1 pc = .ok (.invokestatic idx, 3)) (hlk : Cond.methodLinkNest M.1.cls idx M'.1 host ∈ NW) (hcb : CBs M' n) (hn : av.length = n) (hst : st.length ≤ 8) (hd : d' + 1 ≤ d) (hrun : Runs M' d' (av) h (Qv h1)) (kk : Go M d (pc + 3) loc st h1 Q) : Go M d pc loc (av.reverse ++ st) h Q :=
  g_callSN hdg hlk hcb hn hst hd hrun (fun r h' hq => by obtain ⟨rfl, rfl⟩ := hq; exact kk)
end DEC
