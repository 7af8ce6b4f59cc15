/-! THE LAW: ALL CLAUSES -/
section LH
variable {b : Nat → Int} {N L n : Nat}
def RdR (b : Nat → Int) (L n N : Nat) (r : Int) (g h' : Hp) (res : Option (Int × Hp)) : Prop := (∃ K' p' len' g', res = J_X12_law_86 N 1 g' ∧ exN8 g g' ∧ p' ≤ n ∧ LSt b L n K' p' len' h' g' ∧ r = (K' : Int)) ∨ ∃ f g', f ≠ 0 ∧ r = f ∧ (∃ p', p' ≤ n ∧ TC b L n p' f h') ∧ res = J_X12_law_86 N 0 g' ∧ g' 83 18 = f ∧ exN8 g g'
theorem j49_f {f : Int} {p : Nat} {h : Hp} (hf : f ≠ 0) (t : TC b L n p f h) : J_X3_read_49 N h = some (f, h) := by
  unfold J_X3_read_49
  rw [x_sound t, bd_s, if_neg hf, if_pos rfl, x_fault t, bd_s]
theorem rd9_f {f : Int} {p k : Nat} {c : Int} {h : Hp} (hf : f ≠ 0) (t : TC b L n p f h) : L_X3_read_9 N (k + 1) c h = some (f, h) := by
  unfold L_X3_read_9
  rw [j49_f hf t, x_sound t, bd_s, if_neg hf, if_pos rfl, j49_f hf t]
  split <;> rfl
theorem l46_0 {q : Nat} {g : Hp} : L_X12_law_46 N (q + 1) 0 g = J_X12_law_86 N 0 g := by
  unfold L_X12_law_46
  rw [if_pos rfl]
theorem rdl (hN : 1000000 ≤ N) (T : TXT b L n) (hn : n ≤ 240) : ∀ (mm k q p len K : Nat) (h g : Hp), n - p < mm → mm < k → mm < q → p ≤ n → LSt b L n K p len h g → ∃ r h', L_X3_read_9 N k (K : Int) h = some (r, h') ∧ exL h h' ∧ RdR b L n N r g h' (bd (F_X12_readsClause N g) fun y h => L_X12_law_46 N q y h)
  | 0, _, _, _, _, _, _, _, hm, _, _, _, _ => absurd hm (by omega)
  | mm + 1, k, q, p, len, K, h, g, hm, hk, hq, hp, S => by
    have T1 := T.1
    have T2 := T.2.1
    obtain ⟨k, rfl⟩ : ∃ k', k = k' + 1 := ⟨k - 1, by omega⟩
    obtain ⟨q, rfl⟩ : ∃ q', q = q' + 1 + 1 := ⟨q - 2, by omega⟩
    have hK := S.2.2.2.2.2.2.1
    obtain ⟨h1, a1, a2, C⟩ := clause (N := N) hN T hn hp S
    unfold L_X3_read_9
    rw [if_neg (by omega), x_sound S.1, bd_s, if_pos rfl, if_neg (by decide), a1, bv_s]
    rcases C with ⟨p', len', g', c1, c2, c3, c4, c5⟩ | ⟨f, g', c1, ⟨⟨p', hp', t'⟩, c2⟩, c3, c4, c5⟩
    · obtain ⟨t', d1, d2, d3, d4, d5, d6, d7, d8⟩ := id c5
      rw [x_end t', bd_s, c3, bd_s]
      have u46 : L_X12_law_46 N (q + 1 + 1) 1 g' = if (g' 83 17) ≤ (g' 83 16) then J_X12_law_86 N 1 g' else bd (F_X12_takes N 59 g') fun y2 h1 => if y2 = 0 then (L_X12_law_46 N (q + 1)) 0 h1 else bd (F_X12_readsClause N h1) fun y4 h3 => if y4 = 0 then (L_X12_law_46 N (q + 1)) 0 h3 else (L_X12_law_46 N (q + 1)) 1 h3 := by
        conv => lhs; unfold L_X12_law_46
        rw [if_neg (by decide)]
      rw [u46, d3.1, d3.2.1]
      by_cases e : p' < n
      · rw [if_pos e, if_pos rfl, if_neg (by omega)]
        obtain ⟨h2, b1, b2, b3⟩ := x_need (N := N) T t' (by omega) 59
        obtain ⟨g2, m0, m1⟩ := m_takes (N := N) T d3 c2 59
        rw [b1, bv_s, bnd_s, inc (by omega)]
        rcases b3 with ⟨-, b4, b5⟩ | ⟨b4, b5⟩
        · rcases m1 with ⟨-, m2, m3⟩ | ⟨m2, -⟩
          rotate_left
          · exact absurd b4 m2
          have S2 : LSt b L n (K + 1) (p' + 1) len' h2 g2 := ⟨b5, by rw [b2 44 7 (by omega)]; exact d1, by rw [b2 44 4 (by omega)]; exact d2, m3, by rw [m0 83 21 (by omega)]; exact d4, by rw [m0 83 23 (by omega)]; exact d5, d6, by omega, fun i hi => (d8 i hi).ag (K := K + 1) hi (Nat.le_refl _) (fun c y1 y2 => b2 c i (by omega)) (fun c y1 y2 => m0 c i (by omega)) (fun j _ => ⟨b2 49 j (by omega), b2 50 j (by omega)⟩) (fun j _ => m0 97 j (by omega))⟩
          obtain ⟨r, h3, v1, v2, V⟩ := rdl hN T hn mm k (q + 1) (p' + 1) len' (K + 1) h2 g2 (by omega) (by omega) (by omega) (by omega) S2
          have N2 : exN8 g g2 := exN8.tr c4 (fun c j z1 z2 => m0 c j (by omega))
          rw [v1, m2, bd_s, if_neg (by decide)]
          refine ⟨r, h3, rfl, exL.tr a2 (exL.tr b2.L v2), ?_⟩
          have same : (bd (F_X12_readsClause N g2) fun y4 h3 => if y4 = 0 then (L_X12_law_46 N (q + 1)) 0 h3 else (L_X12_law_46 N (q + 1)) 1 h3) = bd (F_X12_readsClause N g2) fun y h => L_X12_law_46 N (q + 1) y h := by
            obtain ⟨h9, -, -, C9⟩ := clause (N := N) hN T hn (by omega) S2
            rcases C9 with ⟨_, _, g9, _, _, z, _⟩ | ⟨_, g9, _, _, z, _⟩
            · rw [z, bd_s, bd_s, if_neg (by decide)]
            · rw [z, bd_s, bd_s, if_pos rfl]
          rw [same]
          rcases V with ⟨K', p2, l2, g3, w1, w2, w3, w4, w5⟩ | ⟨f, g3, w1, w2, w3, w4, w5, w6⟩
          · exact Or.inl ⟨K', p2, l2, g3, w1, exN8.tr N2 w2, w3, w4, w5⟩
          · exact Or.inr ⟨f, g3, w1, w2, w3, w4, w5, exN8.tr N2 w6⟩
        · rcases m1 with ⟨m2, -⟩ | ⟨-, m2, m3⟩
          · exact absurd ⟨rfl, m2⟩ b4
          rw [if_pos rfl] at b5
          obtain ⟨k, rfl⟩ : ∃ k', k = k' + 1 := ⟨k - 1, by omega⟩
          rw [rd9_f (show -1000 - (p' : Int) ≠ 0 by omega) b5, m2, bd_s, if_pos rfl, l46_0]
          exact ⟨_, h2, rfl, exL.tr a2 b2.L, Or.inr ⟨-1000 - (p' : Int), g2, by omega, rfl, ⟨p', c2, b5⟩, rfl, m3, exN8.tr c4 (fun c j z1 z2 => m0 c j (by omega))⟩⟩
      · rw [if_neg e, if_neg (by decide), if_pos (by omega)]
        unfold J_X3_read_49 F_X2_clauses
        rw [x_sound t', bd_s, if_pos rfl, if_neg (by decide), bd_s, d2]
        exact ⟨_, h1, rfl, a2, Or.inl ⟨K + 1, p', len', g', rfl, c4, c2, c5, rfl⟩⟩
    · rw [x_end t', bd_s, c3, bd_s, l46_0]
      by_cases e : p' < n
      · rw [if_pos e, if_pos rfl]
        obtain ⟨h2, b1, b2, b3⟩ := x_need (N := N) T t' (by omega) 59
        rcases b3 with ⟨z, -⟩ | ⟨-, b5⟩
        · exact absurd z c1
        rw [if_neg c1] at b5
        obtain ⟨k, rfl⟩ : ∃ k', k = k' + 1 := ⟨k - 1, by omega⟩
        rw [b1, bv_s, bnd_s, rd9_f c1 b5]
        exact ⟨f, h2, rfl, exL.tr a2 b2.L, Or.inr ⟨f, g', c1, rfl, ⟨p', hp', b5⟩, rfl, c4, c5⟩⟩
      · rw [if_neg e, if_neg (by decide), j49_f c1 t']
        exact ⟨f, h1, rfl, a2, Or.inr ⟨f, g', c1, rfl, ⟨p', hp', t'⟩, rfl, c4, c5⟩⟩
end LH
