/-! THE LAW: CODE, AND WHAT IT COMES TO -/
abbrev ar (o : Int) : Prop := o = 43 ∨ o = 45 ∨ o = 42 ∨ o = 47 ∨ o = 37
abbrev cm (o : Int) : Prop := o = 60 ∨ o = 62 ∨ o = 61
def rop (o : Int) : Int := if o = 48 then 0 else if o = 97 then 1 else if o = 43 then 2 else if o = 45 then 3 else if o = 42 then 4 else if o = 47 then 5 else if o = 37 then 6 else if o = 60 then 7 else if o = 62 then 8 else if o = 61 then 9 else if o = 33 then 10 else if o = 38 then 11 else 12
def LfC (P : Nat → Int → Int → Prop) (a : Nat) : Prop := ∃ v : Int, (0 ≤ v ∧ v ≤ 99999 ∧ P a 48 v) ∨ (0 ≤ v ∧ v < 8 ∧ P a 97 v)
/-- the code of a sum lies from a to b, and needs d places -/
def SuC (P : Nat → Int → Int → Prop) (d a b : Nat) : Prop := ∀ R : Nat → Nat → Nat → Prop, (∀ d a, 1 ≤ d → LfC P a → R d a (a + 1)) → (∀ d a m e o, R (d + 1) a m → R d m e → ar o → P e o 0 → R (d + 1) a (e + 1)) → R d a b
def CoC (P : Nat → Int → Int → Prop) (a b : Nat) : Prop := ∀ R : Nat → Nat → Prop, (∀ a m e o, SuC P 15 a m → SuC P 15 m e → cm o → P e o 0 → R a (e + 1)) → (∀ a e, R a e → P e 33 0 → R a (e + 1)) → (∀ a m e o, R a m → R (m + 1) e → (o = 38 ∨ o = 124) → P m o (e : Int) → R a e) → R a b
section LW
variable {P P' : Nat → Int → Int → Prop} {d a b m e : Nat} {o : Int}
theorem SuC.leaf (hd : 1 ≤ d) (H : LfC P a) : SuC P d a (a + 1) := fun _ r1 _ => r1 d a hd H
theorem SuC.bin (h1 : SuC P (d + 1) a m) (h2 : SuC P d m e) (ho : ar o) (p : P e o 0) : SuC P (d + 1) a (e + 1) := fun R r1 r2 => r2 d a m e o (h1 R r1 r2) (h2 R r1 r2) ho p
theorem CoC.cmp (h1 : SuC P 15 a m) (h2 : SuC P 15 m e) (ho : cm o) (p : P e o 0) : CoC P a (e + 1) := fun _ r1 _ _ => r1 a m e o h1 h2 ho p
theorem CoC.neg (h1 : CoC P a e) (p : P e 33 0) : CoC P a (e + 1) := fun R r1 r2 r3 => r2 a e (h1 R r1 r2 r3) p
theorem CoC.jn (h1 : CoC P a m) (h2 : CoC P (m + 1) e) (ho : o = 38 ∨ o = 124) (p : P m o (e : Int)) : CoC P a e := fun R r1 r2 r3 => r3 a m e o (h1 R r1 r2 r3) (h2 R r1 r2 r3) ho p
theorem SuC.lt (H : SuC P d a b) : a < b := H (fun _ a b => a < b) (fun _ a _ _ => by omega) (fun _ a m e _ h1 h2 _ _ => by omega)
theorem CoC.lt (H : CoC P a b) : a < b := H (fun a b => a < b) (fun a m e _ h1 h2 _ _ => by have := h1.lt; have := h2.lt; omega) (fun a e h1 _ => by omega) (fun a m e _ h1 h2 _ _ => by omega)
theorem SuC.up (H : SuC P d a b) : ∀ d', d ≤ d' → SuC P d' a b := H (fun d a b => ∀ d', d ≤ d' → SuC P d' a b) (fun d a hd h d' hd' => SuC.leaf (by omega) h) (fun d a m e o h1 h2 ho p d' hd' => by
  obtain ⟨q, rfl⟩ : ∃ q, d' = q + 1 := ⟨d' - 1, by omega⟩
  exact SuC.bin (h1 _ hd') (h2 q (by omega)) ho p)
theorem SuC.ag (H : SuC P d a b) (E : ∀ j, a ≤ j → j < b → ∀ o v, P j o v → P' j o v) : SuC P' d a b := (H (fun d a b => a < b ∧ ((∀ j, a ≤ j → j < b → ∀ o v, P j o v → P' j o v) → SuC P' d a b)) (fun d a hd h => ⟨by omega, fun E => SuC.leaf hd (by
    obtain ⟨v, z | z⟩ := h
    · exact ⟨v, Or.inl ⟨z.1, z.2.1, E a (by omega) (by omega) _ _ z.2.2⟩⟩
    · exact ⟨v, Or.inr ⟨z.1, z.2.1, E a (by omega) (by omega) _ _ z.2.2⟩⟩)⟩) (fun d a m e o h1 h2 ho p => ⟨by omega, fun E => SuC.bin (h1.2 fun j z1 z2 => E j z1 (by omega)) (h2.2 fun j z1 z2 => E j (by omega) (by omega)) ho (E e (by omega) (by omega) _ _ p)⟩)).2 E
theorem CoC.ag (H : CoC P a b) (E : ∀ j, a ≤ j → j < b → ∀ o v, P j o v → P' j o v) : CoC P' a b := (H (fun a b => a < b ∧ ((∀ j, a ≤ j → j < b → ∀ o v, P j o v → P' j o v) → CoC P' a b)) (fun a m e o h1 h2 ho p => ⟨by have := h1.lt; have := h2.lt; omega, fun E => by
    have := h1.lt
    have := h2.lt
    exact CoC.cmp (h1.ag fun j z1 z2 => E j z1 (by omega)) (h2.ag fun j z1 z2 => E j (by omega) (by omega)) ho (E e (by omega) (by omega) _ _ p)⟩) (fun a e h1 p => ⟨by omega, fun E => CoC.neg (h1.2 fun j z1 z2 => E j z1 (by omega)) (E e (by omega) (by omega) _ _ p)⟩) (fun a m e o h1 h2 ho p => ⟨by omega, fun E => CoC.jn (h1.2 fun j z1 z2 => E j z1 (by omega)) (h2.2 fun j z1 z2 => E j (by omega) (by omega)) ho (E m (by omega) (by omega) _ _ p)⟩)).2 E
end LW
def ari (o x y : Int) : Option Int := if o = 42 then some (w32 (x * y)) else if o = 43 then some (w32 (x + y)) else if o = 45 then some (w32 (x - y)) else if o = 60 then (if y ≤ x then some 0 else some 1) else if o = 61 then (if x = y then some 1 else some 0) else if o = 62 then (if x ≤ y then some 0 else some 1) else if y = 0 then none else if o = 47 then some (idiv x y) else some (irem x y)
/-- what a piece of code may touch -/
def exE (s : Nat) (h h' : Hp) : Prop := ∀ c j, ¬ (c = 11 ∧ (j = 10 ∨ j = 11)) → ¬ (c = 19 ∧ s ≤ j) → h' c j = h c j
def exVM (s : Nat) (g g' : Hp) : Prop := ∀ c j, ¬ (c = 108 ∧ s ≤ j) → g' c j = g c j
theorem exE.tr {s s' : Nat} {a b c : Hp} (h1 : exE s a b) (h2 : exE s' b c) (hs : s ≤ s') : exE s a c := fun x j p q => (h2 x j p (by omega)).trans (h1 x j p q)
theorem exVM.tr {s s' : Nat} {a b c : Hp} (h1 : exVM s a b) (h2 : exVM s' b c) (hs : s ≤ s') : exVM s a c := fun x j q => (h2 x j (by omega)).trans (h1 x j q)
def PX (h : Hp) (j : Nat) (o v : Int) : Prop := h 16 j = o ∧ h 17 j = v
def PM (g : Hp) (j : Nat) (o v : Int) : Prop := g 103 j = 1048576 * rop o + v
/-- the state of both reckoners -/
def VX (s : Nat) (f : Nat → Int) (h : Hp) : Prop := h 11 10 = (s : Int) ∧ h 11 11 = 0 ∧ ∀ k, k < 8 → h 18 k = f k
def VM (f : Nat → Int) (g : Hp) : Prop := ∀ k, k < 8 → g 109 k = f k
section EV
variable {N s e : Nat} {f : Nat → Int} {h g : Hp} {o v : Int}
theorem VX.ag {h' : Hp} (H : VX s f h) (hV : exE 0 h h') {s' : Nat} (e1 : h' 11 10 = (s' : Int)) (e2 : h' 11 11 = 0) : VX s' f h' := ⟨e1, e2, fun k hk => by rw [hV 18 k (by omega) (by omega)]; exact H.2.2 k hk⟩
theorem VM.ag {g' : Hp} (H : VM f g) (hV : exVM 0 g g') : VM f g' := fun k hk => by rw [hV 109 k (by omega)]; exact H k hk
theorem x_push (H : h 11 10 = (s : Int)) (hs : s < 64) (v : Int) : ∃ h', F_X2_push N v h = some h' ∧ h' 11 10 = ((s + 1 : Nat) : Int) ∧ h' 19 s = v ∧ exE s h h' ∧ h' 11 11 = h 11 11 := by
  unfold F_X2_push
  rw [H, if_neg (by omega), if_neg (by omega), grd_t ⟨by omega, by omega⟩, bnd_s, bnd_s, Int.toNat_natCast, hw_ne (by omega), H, inc (by omega)]
  exact ⟨_, rfl, hw_eq, by rw [hw_ne (by omega), hw_eq], fun c j z1 z2 => by rw [hw_ne (by omega), hw_ne (by omega)], by rw [hw_ne (by omega), hw_ne (by omega)]⟩
theorem x_pop (H : h 11 10 = ((s + 1 : Nat) : Int)) (hs : s < 64) : F_X2_pop N h = some (h 19 s, hw h 11 10 (s : Int)) := by
  unfold F_X2_pop
  have e1 : w32 (((s + 1 : Nat) : Int) - 1) = (s : Int) := by rw [w32_id ⟨by omega, by omega⟩]; omega
  rw [H, if_neg (by omega), if_pos (by omega), e1, bnd_s, hw_eq, grd_t ⟨by omega, by omega⟩, Int.toNat_natCast, hw_ne (by omega)]
/-- the head of a turn -/
theorem x_turn (H : VX s f h) {x2 q : Nat} (he : e < x2) (hx : x2 ≤ 240) : L_X2_reckon_12 N (q + 1) (x2 : Int) (e : Int) h = (if h 16 e = 48 then bv (F_X2_push N (h 17 e) h) fun h15 => J_X2_reckon_196 N (L_X2_reckon_12 N q) (x2 : Int) (e : Int) h15 else if h 16 e = 97 then bd (F_X2_factAt N (h 17 e) h) fun y13 h12 => bv (F_X2_push N y13 h12) fun h14 => J_X2_reckon_196 N (L_X2_reckon_12 N q) (x2 : Int) (e : Int) h14 else if h 16 e = 33 then bd (F_X2_pop N h) fun y10 h9 => bv (F_X2_push N (w32 (1 - y10)) h9) fun h11 => J_X2_reckon_196 N (L_X2_reckon_12 N q) (x2 : Int) (e : Int) h11 else if h 16 e = 38 then J_X2_reckon_121 N (L_X2_reckon_12 N q) (x2 : Int) (e : Int) (h 16 e) h else if h 16 e = 124 then J_X2_reckon_121 N (L_X2_reckon_12 N q) (x2 : Int) (e : Int) (h 16 e) h else bd (F_X2_pop N h) fun y3 h2 => bd (F_X2_pop N h2) fun y5 h4 => bd (F_X2_join N y5 (h 16 e) y3 h4) fun y7 h6 => bv (F_X2_push N y7 h6) fun h8 => J_X2_reckon_196 N (L_X2_reckon_12 N q) (x2 : Int) (e : Int) h8) := by
  conv => lhs; unfold L_X2_reckon_12
  have g1 : 0 ≤ (e : Int) ∧ (e : Int) < 240 := ⟨by omega, by omega⟩
  rw [if_neg (by omega), if_neg (by omega), if_neg (by omega), if_pos H.2.1]
  simp only [grd_t g1, bnd_s, Int.toNat_natCast]
theorem x_leaf (H : VX s f h) {x2 q : Nat} (he : e < x2) (hx : x2 ≤ 240) (hs : s < 64) {r : Int} (c : PX h e 48 r ∨ ∃ k : Nat, k < 8 ∧ PX h e 97 (k : Int) ∧ r = f k) : ∃ h', L_X2_reckon_12 N (q + 1) (x2 : Int) (e : Int) h = L_X2_reckon_12 N q (x2 : Int) ((e + 1 : Nat) : Int) h' ∧ VX (s + 1) f h' ∧ h' 19 s = r ∧ exE s h h' := by
  rw [x_turn H he hx]
  obtain ⟨h', a1, a2, a3, a4, a5⟩ := x_push (N := N) H.1 hs r
  have go : (bv (F_X2_push N r h) fun h15 => J_X2_reckon_196 N (L_X2_reckon_12 N q) (x2 : Int) (e : Int) h15) = L_X2_reckon_12 N q (x2 : Int) ((e + 1 : Nat) : Int) h' := by
    unfold J_X2_reckon_196
    rw [a1, bv_s, bnd_s, inc (by omega)]
  refine ⟨h', ?_, H.ag (fun c j z1 z2 => a4 c j z1 (by omega)) a2 (by rw [a5]; exact H.2.1), a3, a4⟩
  rcases c with ⟨c3, c4⟩ | ⟨k, hk, ⟨c3, c4⟩, c5⟩
  · rw [if_pos c3, c4]
    exact go
  · unfold F_X2_factAt
    rw [c3, if_neg (by decide), if_pos rfl, c4, if_neg (by omega), if_neg (by omega), grd_t ⟨by omega, by omega⟩, bd_s, Int.toNat_natCast, H.2.2 k hk, ← c5]
    exact go
theorem x_join {x y : Int} (ho : ar o ∨ cm o) : ∃ h' w, F_X2_join N x o y h = some (w, h') ∧ (∀ c j, ¬ (c = 11 ∧ j = 11) → h' c j = h c j) ∧ h' 11 10 = h 11 10 ∧ ((ari o x y = some w ∧ h' = h) ∨ (ari o x y = none ∧ h' 11 11 = 1)) := by
  have same : ∀ w : Int, ari o x y = some w → F_X2_join N x o y h = some (w, h) → ∃ h' w, F_X2_join N x o y h = some (w, h') ∧ (∀ c j, ¬ (c = 11 ∧ j = 11) → h' c j = h c j) ∧ h' 11 10 = h 11 10 ∧ ((ari o x y = some w ∧ h' = h) ∨ (ari o x y = none ∧ h' 11 11 = 1)) := fun w e1 e2 => ⟨h, w, e2, fun _ _ _ => rfl, rfl, Or.inl ⟨e1, rfl⟩⟩
  have dv : (o = 47 ∨ o = 37) → ∃ h' w, F_X2_join N x o y h = some (w, h') ∧ (∀ c j, ¬ (c = 11 ∧ j = 11) → h' c j = h c j) ∧ h' 11 10 = h 11 10 ∧ ((ari o x y = some w ∧ h' = h) ∨ (ari o x y = none ∧ h' 11 11 = 1)) := fun ho => by
    by_cases z : y = 0
    · refine ⟨hw h 11 11 1, 0, ?_, fun c j z1 => by rw [hw_ne z1], by rw [hw_ne (by omega)], Or.inr ⟨?_, hw_eq⟩⟩
      · unfold F_X2_join
        rw [if_neg (by omega), if_neg (by omega), if_neg (by omega), if_neg (by omega), if_neg (by omega), if_neg (by omega), if_pos z, bnd_s]
      · unfold ari
        rw [if_neg (by omega), if_neg (by omega), if_neg (by omega), if_neg (by omega), if_neg (by omega), if_neg (by omega), if_pos z]
    · refine same (if o = 47 then idiv x y else irem x y) ?_ ?_
      · unfold ari
        rw [if_neg (by omega), if_neg (by omega), if_neg (by omega), if_neg (by omega), if_neg (by omega), if_neg (by omega), if_neg z]
        by_cases w : o = 47
        · rw [if_pos w, if_pos w]
        · rw [if_neg w, if_neg w]
      · unfold F_X2_join
        rw [if_neg (by omega), if_neg (by omega), if_neg (by omega), if_neg (by omega), if_neg (by omega), if_neg (by omega), if_neg z, grd_t z, grd_t z]
        by_cases w : o = 47
        · rw [if_pos w, if_pos w]
        · rw [if_neg w, if_neg w]
  rcases ho with (rfl | rfl | rfl | rfl | rfl) | (rfl | rfl | rfl)
  · exact same (w32 (x + y)) (by unfold ari; rfl) (by unfold F_X2_join; rfl)
  · exact same (w32 (x - y)) (by unfold ari; rfl) (by unfold F_X2_join; rfl)
  · exact same (w32 (x * y)) (by unfold ari; rfl) (by unfold F_X2_join; rfl)
  · exact dv (Or.inl rfl)
  · exact dv (Or.inr rfl)
  · refine same (if y ≤ x then 0 else 1) ?_ ?_
    · show (if y ≤ x then some 0 else some 1) = _
      by_cases z : y ≤ x
      · rw [if_pos z, if_pos z]
      · rw [if_neg z, if_neg z]
    · show (if y ≤ x then some (0, h) else some (1, h)) = _
      by_cases z : y ≤ x
      · rw [if_pos z, if_pos z]
      · rw [if_neg z, if_neg z]
  · refine same (if x ≤ y then 0 else 1) ?_ ?_
    · show (if x ≤ y then some 0 else some 1) = _
      by_cases z : x ≤ y
      · rw [if_pos z, if_pos z]
      · rw [if_neg z, if_neg z]
    · show (if x ≤ y then some (0, h) else some (1, h)) = _
      by_cases z : x ≤ y
      · rw [if_pos z, if_pos z]
      · rw [if_neg z, if_neg z]
  · refine same (if x = y then 1 else 0) ?_ ?_
    · show (if x = y then some 1 else some 0) = _
      by_cases z : x = y
      · rw [if_pos z, if_pos z]
      · rw [if_neg z, if_neg z]
    · show (if x = y then some (1, h) else some (0, h)) = _
      by_cases z : x = y
      · rw [if_pos z, if_pos z]
      · rw [if_neg z, if_neg z]
theorem x_dead {x2 q : Nat} {p : Int} (H : h 11 11 = 1) : L_X2_reckon_12 N (q + 1) (x2 : Int) p h = some (0, h) := by
  have j : J_X2_reckon_202 N h = some (0, h) := by unfold J_X2_reckon_202; rw [H, if_neg (by decide)]
  unfold L_X2_reckon_12
  rw [H, j]
  by_cases z1 : p < 0
  · rw [if_pos z1]
  rw [if_neg z1]
  by_cases z2 : (x2 : Int) ≤ p
  · rw [if_pos z2]
  rw [if_neg z2]
  by_cases z3 : 240 ≤ p
  · rw [if_pos z3]
  rw [if_neg z3, if_neg (by decide)]
theorem x_bin (H : VX (s + 2) f h) {x2 q : Nat} (he : e < x2) (hx : x2 ≤ 240) (hs : s + 2 ≤ 64) (ho : ar o ∨ cm o) (c : PX h e o 0) {x y : Int} (ex : h 19 s = x) (ey : h 19 (s + 1) = y) : ∃ h', exE s h h' ∧ ((∃ w, ari o x y = some w ∧ L_X2_reckon_12 N (q + 2) (x2 : Int) (e : Int) h = L_X2_reckon_12 N (q + 1) (x2 : Int) ((e + 1 : Nat) : Int) h' ∧ VX (s + 1) f h' ∧ h' 19 s = w) ∨ (ari o x y = none ∧ L_X2_reckon_12 N (q + 2) (x2 : Int) (e : Int) h = some (0, h'))) := by
  obtain ⟨h3, eh3⟩ : ∃ h3, h3 = hw (hw h 11 10 ((s + 1 : Nat) : Int)) 11 10 (s : Int) := ⟨_, rfl⟩
  have f3 : ∀ c j, ¬ (c = 11 ∧ j = 10) → h3 c j = h c j := fun c j z => by rw [eh3, hw_ne z, hw_ne z]
  obtain ⟨h4, w, a1, a2, a3, a4⟩ := x_join (N := N) (x := x) (y := y) (h := h3) ho
  obtain ⟨h5, b1, b2, b3, b4, b5⟩ := x_push (N := N) (h := h4) (s := s) (by rw [a3, eh3, hw_eq]) (by omega) w
  have e5 : exE s h h5 := fun c j z1 z2 => by rw [b4 c j z1 z2, a2 c j (by omega), f3 c j (by omega)]
  have run : L_X2_reckon_12 N (q + 2) (x2 : Int) (e : Int) h = L_X2_reckon_12 N (q + 1) (x2 : Int) ((e + 1 : Nat) : Int) h5 := by
    refine (x_turn (q := q + 1) H he hx).trans ?_
    unfold J_X2_reckon_196
    have p1 := x_pop (N := N) (h := h) (s := s + 1) H.1 (by omega)
    have p2 := x_pop (N := N) (h := hw h 11 10 ((s + 1 : Nat) : Int)) (s := s) hw_eq (by omega)
    rw [hw_ne (by omega), ← eh3] at p2
    rw [c.1, if_neg (by omega), if_neg (by omega), if_neg (by omega), if_neg (by omega), if_neg (by omega), p1, bd_s, p2, bd_s, ex, ey, a1, bd_s, b1, bv_s, bnd_s, inc (by omega)]
  rw [run]
  refine ⟨h5, e5, ?_⟩
  rcases a4 with ⟨c1, c2⟩ | ⟨c1, c2⟩
  · exact Or.inl ⟨w, c1, rfl, H.ag (fun c j z1 z2 => e5 c j z1 (by omega)) b2 (by rw [b5, c2, f3 11 11 (by omega)]; exact H.2.1), b3⟩
  · exact Or.inr ⟨c1, x_dead (by rw [b5]; exact c2)⟩
theorem x_neg (H : VX (s + 1) f h) {x2 q : Nat} (he : e < x2) (hx : x2 ≤ 240) (hs : s + 1 ≤ 64) (c : PX h e 33 0) : ∃ h', exE s h h' ∧ L_X2_reckon_12 N (q + 1) (x2 : Int) (e : Int) h = L_X2_reckon_12 N q (x2 : Int) ((e + 1 : Nat) : Int) h' ∧ VX (s + 1) f h' ∧ h' 19 s = w32 (1 - h 19 s) := by
  have p1 := x_pop (N := N) (h := h) (s := s) H.1 (by omega)
  obtain ⟨h5, b1, b2, b3, b4, b5⟩ := x_push (N := N) (h := hw h 11 10 (s : Int)) (s := s) hw_eq (by omega) (w32 (1 - h 19 s))
  have e5 : exE s h h5 := fun c j z1 z2 => by rw [b4 c j z1 z2, hw_ne (by omega)]
  refine ⟨h5, e5, ?_, H.ag (fun c j z1 z2 => e5 c j z1 (by omega)) b2 (by rw [b5, hw_ne (by omega)]; exact H.2.1), b3⟩
  refine (x_turn H he hx).trans ?_
  unfold J_X2_reckon_196
  rw [c.1, if_neg (by decide), if_neg (by decide), if_pos rfl, p1, bd_s, b1, bv_s, bnd_s, inc (by omega)]
theorem x_jn (H : VX (s + 1) f h) {x2 q z : Nat} (he : e < x2) (hx : x2 ≤ 240) (hs : s + 1 ≤ 64) (ho : o = 38 ∨ o = 124) (hz : e < z) (hz2 : z ≤ 240) (c : PX h e o (z : Int)) (h01 : h 19 s = 0 ∨ h 19 s = 1) : ∃ h', exE s h h' ∧ ((h 19 s = (if o = 38 then 0 else 1) ∧ L_X2_reckon_12 N (q + 1) (x2 : Int) (e : Int) h = L_X2_reckon_12 N q (x2 : Int) (z : Int) h' ∧ VX (s + 1) f h' ∧ h' 19 s = h 19 s) ∨ (¬ h 19 s = (if o = 38 then 0 else 1) ∧ L_X2_reckon_12 N (q + 1) (x2 : Int) (e : Int) h = L_X2_reckon_12 N q (x2 : Int) ((e + 1 : Nat) : Int) h' ∧ VX s f h')) := by
  have p1 := x_pop (N := N) (h := h) (s := s) H.1 (by omega)
  obtain ⟨h5, b1, b2, b3, b4, b5⟩ := x_push (N := N) (h := hw h 11 10 (s : Int)) (s := s) hw_eq (by omega) (h 19 s)
  have e5 : exE s h h5 := fun c j z1 z2 => by rw [b4 c j z1 z2, hw_ne (by omega)]
  have e0 : exE s h (hw h 11 10 (s : Int)) := fun c j z1 z2 => by rw [hw_ne (by omega)]
  have V5 : VX (s + 1) f h5 := H.ag (fun c j z1 z2 => e5 c j z1 (by omega)) b2 (by rw [b5, hw_ne (by omega)]; exact H.2.1)
  have V0 : VX s f (hw h 11 10 (s : Int)) := H.ag (fun c j z1 z2 => e0 c j z1 (by omega)) hw_eq (by rw [hw_ne (by omega)]; exact H.2.1)
  have e17 : h5 17 e = (z : Int) := by rw [e5 17 e (by omega) (by omega)]; exact c.2
  have im : w32 (imax (e : Int) (w32 ((z : Int) - 1)) + 1) = (z : Int) := by
    rw [w32_id (x := (z : Int) - 1) ⟨by omega, by omega⟩]
    have : imax (e : Int) ((z : Int) - 1) = (z : Int) - 1 := by unfold imax; split <;> omega
    rw [this, w32_id ⟨by omega, by omega⟩]; omega
  have t := x_turn (N := N) (q := q) H he hx
  unfold J_X2_reckon_121 J_X2_reckon_137 J_X2_reckon_149 J_X2_reckon_196 at t
  have jump : (bv (F_X2_push N (h 19 s) (hw h 11 10 (s : Int))) fun h1 => grd (0 ≤ (e : Int) ∧ (e : Int) < 240) <| bnd ((imax (e : Int) (w32 ((h1 17 (e : Int).toNat) - 1)))) fun y2 => bnd (w32 (y2 + 1)) fun y1 => L_X2_reckon_12 N q (x2 : Int) y1 h1) = L_X2_reckon_12 N q (x2 : Int) (z : Int) h5 := by
    rw [b1, bv_s, grd_t ⟨by omega, by omega⟩, bnd_s, bnd_s, Int.toNat_natCast, e17, im]
  rcases ho with rfl | rfl
  · rw [c.1, if_neg (by decide), if_neg (by decide), if_neg (by decide), if_pos rfl, p1, bd_s] at t
    rcases h01 with y | y
    · refine ⟨h5, e5, Or.inl ⟨by rw [y]; rfl, ?_, V5, b3⟩⟩
      rw [if_pos y, if_pos rfl, if_pos rfl] at t
      exact t.trans jump
    · refine ⟨_, e0, Or.inr ⟨by rw [y]; decide, ?_, V0⟩⟩
      rw [if_neg (by omega), if_pos rfl, if_neg (by decide), bnd_s, inc (by omega)] at t
      exact t
  · rw [c.1, if_neg (by decide), if_neg (by decide), if_neg (by decide), if_neg (by decide), if_pos rfl, p1, bd_s] at t
    rcases h01 with y | y
    · refine ⟨_, e0, Or.inr ⟨by rw [y]; decide, ?_, V0⟩⟩
      rw [if_pos y, if_neg (by decide), if_neg (by decide), bnd_s, inc (by omega)] at t
      exact t
    · refine ⟨h5, e5, Or.inl ⟨by rw [y]; rfl, ?_, V5, b3⟩⟩
      rw [if_neg (by omega), if_neg (by decide), if_pos rfl] at t
      exact t.trans jump
end EV
