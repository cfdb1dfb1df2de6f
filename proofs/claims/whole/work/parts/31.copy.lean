/-! copy; count -/
theorem ok_copy {N : Nat} {uc um : zS} (hN : 300 ≤ N) (h : RR uc um) (a0 a1 a2 a3 a4 : Int32) : op_copy N RR uc um a0 a1 a2 a3 a4 := by
  unfold op_copy f_X5_copy f_X6_copy
  rw [isSheet_eq, isSheet_eq]
  rcases isSh a0 with h0 | ⟨s, hs, rfl, h1⟩
  · rw [if_pos h0, if_pos h0]; exact ⟨_, _, _, rfl, rfl, h⟩
  have h1n : ¬ f_X5_isSheet (nI s) = 0 := by rw [h1]; decide
  rw [if_neg h1n, if_neg h1n]
  rcases isSh a2 with h0 | ⟨t, ht, rfl, h2⟩
  · rw [if_pos h0, if_pos h0]; exact ⟨_, _, _, rfl, rfl, h⟩
  have h2n : ¬ f_X5_isSheet (nI t) = 0 := by rw [h2]; decide
  rw [if_neg h2n, if_neg h2n]
  have I4 : ∀ {α : Type} {i : Nat} {x : Option α}, i < 4 → og (inB (nI i) 4) x = x := fun h => og_nI h (by omega)
  simp only [I4 hs, I4 ht, nI_clamp (show s < 2 ^ 31 by omega), nI_clamp (show t < 2 ^ 31 by omega), f_X3_isThere]
  rcases h.2.2.2 s hs with ⟨g1, g2⟩ | ⟨ln, sz, p1, p2, p3, p4, p5, p6, p7⟩
  · rw [g1, if_pos rfl, ob_s, if_pos rfl, g2, if_pos (show (-1 : Int32) < 0 by decide)]; exact ⟨_, _, _, rfl, rfl, h⟩
  rw [p3, if_neg (nI_n4 (by omega)), ob_s, if_neg (show ¬ (1 : Int32) = 0 by decide), p6, if_neg (nI_pos (by omega))]
  rcases h.2.2.2 t ht with ⟨g1, g2⟩ | ⟨lm, sy, q1, q2, q3, q4, q5, q6, q7⟩
  · rw [g1, if_pos rfl, ob_s, if_pos rfl, g2, if_neg (show ¬ (0 : Int32) ≤ -1 by decide)]; exact ⟨_, _, _, rfl, rfl, h⟩
  rw [q3, if_neg (nI_n4 (by omega)), ob_s, if_neg (show ¬ (1 : Int32) = 0 by decide), q6, if_pos (nI_pos' (by omega)), p4, q4]
  by_cases hl : ¬ nI ln = nI lm
  · rw [if_neg hl, if_neg hl]; exact ⟨_, _, _, rfl, rfl, h⟩
  have hl : nI ln = nI lm := Classical.byContradiction hl
  rw [if_pos hl, if_pos hl]
  rcases ag_spec p6 p4 hs p2 (nI ln) a1 a4 with ⟨-, g1, i, n, e1, e2, e3⟩ | ⟨-, g1, g2⟩ | ⟨g0, -⟩
  · rw [g1, ob_s, if_neg (show ¬ (0 : Int32) < 0 by decide)]
    rcases hi_spec p5 hs p2 a1 a4 with ⟨k1, -⟩ | ⟨-, k3⟩
    · rw [k1, ob_s, if_neg (show ¬ (1 : Int32) = 0 by decide)]
      rcases ag_spec q6 q4 ht q2 (nI lm) a3 a4 with ⟨-, g3, j, n2, e4, e5, e6⟩ | ⟨-, g3, g4⟩ | ⟨g0, -⟩
      · rw [g3, ob_s, if_pos (show (0 : Int32) ≤ 0 by decide)]
        rcases hi_spec q5 ht q2 a3 a4 with ⟨k2, -⟩ | ⟨-, k4⟩
        · rw [k2, ob_s, if_neg (show ¬ (1 : Int32) = 0 by decide)]
          subst e1; subst e4; subst e2
          have hn2 : n2 = n := ((nI_eq (by omega) (by omega)).mp e5).symm
          subst hn2
          unfold f_X3_carry
          rw [show nI s * 24 = nI (s * 24) from pk_mul s 24, show nI t * 24 = nI (t * 24) from pk_mul t 24, nI_add, nI_add, og_cpN (by omega) (by omega) (by omega) (by omega), nI_clamp (by omega), nI_clamp (by omega), nI_clamp (by omega), ol, ob_s]
          -- the reference: by way of a row of its own
          have k1 : ∀ (k a q : Nat) (x : zS), a + k = n2 → k < q → x.1 = um.1 → x.2 3 = um.2 3 → (∀ z, z < a → x.2 13 z = um.2 3 (24 * s + i + z)) → ∃ v, f_X6_copy_L96 N (nI s) (nI i) (nI t) (nI j) (nI n2) q x (nI a) = some v ∧ v.1 = um.1 ∧ v.2 3 = um.2 3 ∧ ∀ z, z < n2 → v.2 13 z = um.2 3 (24 * s + i + z) := by
            intro k
            induction k with
            | zero =>
              intro a q x w1 w2 w3 w4 w5
              obtain ⟨q, rfl⟩ : ∃ z, q = z + 1 := ⟨q - 1, by omega⟩
              have : a = n2 := by omega
              subst this
              refine ⟨x, ?_, w3, w4, w5⟩
              show f_X6_copy_L96_B N _ _ _ _ _ _ _ _ = _
              unfold f_X6_copy_L96_B
              rw [if_pos (nI_le (Nat.le_refl _) (by omega))]
            | succ k ih =>
              intro a q x w1 w2 w3 w4 w5
              obtain ⟨q, rfl⟩ : ∃ z, q = z + 1 := ⟨q - 1, by omega⟩
              show ∃ v, f_X6_copy_L96_B N _ _ _ _ _ _ _ _ = _ ∧ _
              unfold f_X6_copy_L96_B
              rw [if_neg (nI_ge (by omega) (by omega)), show (24 : Int32) * nI s = nI (24 * s) from pk_mul 24 s, nI_add, nI_add, og_nI (by omega) (by omega), og_nI (by omega) (by omega), nI_clamp (by omega), nI_clamp (by omega), ol, show nI a + 1 = nI (a + 1) from nI_1 a]
              refine ih (a + 1) q _ (by omega) (by omega) w3 (by rw [wL_ne (by omega)]; exact w4) (fun z hz => ?_)
              rw [wL_2, if_pos rfl]
              by_cases e : z = a
              · rw [if_pos e, w4, e]
              · rw [if_neg e]; exact w5 z (by omega)
          obtain ⟨v1, y1, y2, y3, y4⟩ := k1 n2 0 N um (by omega) (by omega) rfl rfl (fun z hz => absurd hz (by omega))
          have k2 : ∀ (k a q : Nat) (x : zS), a + k = n2 → k < q → x.1 = um.1 → x.2 13 = v1.2 13 → (∀ z, x.2 3 z = if 24 * t + j ≤ z ∧ z < 24 * t + j + a then um.2 3 (24 * s + i + (z - (24 * t + j))) else um.2 3 z) → ∃ v, f_X6_copy_L133 N (nI t) (nI j) (nI n2) q x (nI a) = some v ∧ v.1 = um.1 ∧ ∀ z, v.2 3 z = if 24 * t + j ≤ z ∧ z < 24 * t + j + n2 then um.2 3 (24 * s + i + (z - (24 * t + j))) else um.2 3 z := by
            intro k
            induction k with
            | zero =>
              intro a q x w1 w2 w3 w4 w5
              obtain ⟨q, rfl⟩ : ∃ z, q = z + 1 := ⟨q - 1, by omega⟩
              have : a = n2 := by omega
              subst this
              refine ⟨x, ?_, w3, w5⟩
              show f_X6_copy_L133_B N _ _ _ _ _ _ = _
              unfold f_X6_copy_L133_B
              rw [if_pos (nI_le (Nat.le_refl _) (by omega))]
            | succ k ih =>
              intro a q x w1 w2 w3 w4 w5
              obtain ⟨q, rfl⟩ : ∃ z, q = z + 1 := ⟨q - 1, by omega⟩
              show ∃ v, f_X6_copy_L133_B N _ _ _ _ _ _ = _ ∧ _
              unfold f_X6_copy_L133_B
              rw [if_neg (nI_ge (by omega) (by omega)), show (24 : Int32) * nI t = nI (24 * t) from pk_mul 24 t, nI_add, nI_add, og_nI (by omega) (by omega), og_nI (by omega) (by omega), nI_clamp (by omega), nI_clamp (by omega), ol, show nI a + 1 = nI (a + 1) from nI_1 a]
              refine ih (a + 1) q _ (by omega) (by omega) w3 (by rw [wL_ne (by omega)]; exact w4) (fun z => ?_)
              rw [wL_2, if_pos rfl, w5]
              by_cases e : z = 24 * t + j + a
              · rw [if_pos e, if_pos (by omega), w4, y4 a (by omega)]
                exact congrArg (um.2 3) (by omega)
              · rw [if_neg e]
                by_cases e2 : 24 * t + j ≤ z ∧ z < 24 * t + j + a
                · rw [if_pos e2, if_pos (by omega)]
                · rw [if_neg e2, if_neg (by omega)]
          obtain ⟨v2, z1, z2, z3⟩ := k2 n2 0 N v1 (by omega) (by omega) y2 rfl (fun z => by rw [if_neg (by omega), y3])
          rw [show f_X6_copy_L96 N (nI s) (nI i) (nI t) (nI j) (nI n2) N um 0 = some v1 from y1, ob_s, show f_X6_copy_L133 N (nI t) (nI j) (nI n2) N v1 0 = some v2 from z1]
          refine ⟨_, _, _, rfl, rfl, ?_⟩
          refine RR_sh h (fun s2 hs2 => ?_) (fun c hc => rfl) (fun c hc => by rw [z2])
          have x5 : v2.1 5 = um.1 5 := by rw [z2]
          have x4 : v2.1 4 = um.1 4 := by rw [z2]
          rw [x5, x4]
          rcases h.2.2.2 s2 hs2 with g | ⟨ln2, sz2, w1, w2, w3, w4, w5, w6, w7⟩
          · exact Or.inl g
          · right
            refine ⟨ln2, sz2, w1, w2, w3, w4, w5, w6, fun i2 hi2 => ?_⟩
            rw [cpL_2, if_pos rfl, z3]
            by_cases e : 24 * t + j ≤ 24 * s2 + i2 ∧ 24 * s2 + i2 < 24 * t + j + n2
            · rw [if_pos (by omega), if_pos e]
              have := p7 (i + (24 * s2 + i2 - (24 * t + j))) (by omega)
              rw [show s * 24 + i + (24 * s2 + i2 - (t * 24 + j)) = 24 * s + (i + (24 * s2 + i2 - (24 * t + j))) by omega, this]
              exact congrArg (um.2 3) (by omega)
            · rw [if_neg (by omega), if_neg e]; exact w7 i2 hi2
        · exact absurd e5 (k4 j n2 e6 e4)
      · rw [g3, ob_s, if_neg (show ¬ (0 : Int32) ≤ -13 by decide)]
        rcases hi_spec q5 ht q2 a3 a4 with ⟨-, j, n2, e4, e5, e6⟩ | ⟨k4, -⟩
        · exact absurd e5 (g4 j n2 e6 e4)
        · rw [k4, ob_s, if_pos rfl]; exact ⟨_, _, _, rfl, rfl, h⟩
      · exact absurd rfl g0
    · exact absurd e2 (k3 i n e3 e1)
  · rw [g1, ob_s, if_pos (show (-13 : Int32) < 0 by decide)]
    rcases hi_spec p5 hs p2 a1 a4 with ⟨-, i, n, e1, e2, e3⟩ | ⟨k1, -⟩
    · exact absurd e2 (g2 i n e3 e1)
    · rw [k1, ob_s, if_pos rfl]; exact ⟨_, _, _, rfl, rfl, h⟩
  · exact absurd rfl g0
/-- the gone ones, as an int -/
def goF (W : Nat → Int32) : Nat → Int32
  | 0 => 0
  | n + 1 => if W (5 + n) = -4 then goF W n ||| ((1 : Int32) <<< (nI n &&& (31 : Int32))) else goF W n
theorem gone1 {N : Nat} {u : zS} {W : Nat → Int32} {n : Nat} (hN : 300 ≤ N) (h0 : u.1 1 6 = nI n) (hn : n ≤ 8) (hp : ∀ i, i < n → u.1 2 i = W (5 + i)) : f_X1_goneOnes N 1 u = some (goF W n) := by
  have key : ∀ (k i m : Nat), i + k = n → k < m → f_X1_goneOnes_L4 N 1 u m (goF W i) (nI i) = some (goF W n) := by
    intro k
    induction k with
    | zero =>
      intro i m h1 h2
      obtain ⟨m, rfl⟩ : ∃ q, m = q + 1 := ⟨m - 1, by omega⟩
      have : i = n := by omega
      subst this
      show f_X1_goneOnes_L4_B N 1 u _ _ _ = _
      unfold f_X1_goneOnes_L4_B
      rw [h0, if_pos (nI_le (Nat.le_refl _) (by omega))]
    | succ k ih =>
      intro i m h1 h2
      obtain ⟨m, rfl⟩ : ∃ q, m = q + 1 := ⟨m - 1, by omega⟩
      show f_X1_goneOnes_L4_B N 1 u _ _ _ = _
      unfold f_X1_goneOnes_L4_B
      have nx := ih (i + 1) m (by omega) (by omega)
      simp only [goF] at nx
      have e : u.1 (1 + 1) i = W (5 + i) := hp i (by omega)
      rw [h0, if_neg (nI_ge (by omega) (by omega)), og_nI (by omega) (by omega), nI_clamp (by omega), e, show nI i + 1 = nI (i + 1) from nI_1 i]
      by_cases h4 : W (5 + i) = -4
      · rw [if_pos h4, ol]; rw [if_pos h4] at nx; exact nx
      · rw [if_neg h4]; rw [if_neg h4] at nx; exact nx
  unfold f_X1_goneOnes
  rw [show (0 : Int32) = goF W 0 from rfl, show f_X1_goneOnes_L4 N 1 u N (goF W 0) (goF W 0) = some (goF W n) from key n 0 N (by omega) (by omega)]
  rfl
theorem or_0 (x : Int32) : x ||| 0 = x := by simp
theorem gone2 {N : Nat} {u : zS} {n : Nat} (hN : 300 ≤ N) (h0 : u.1 1 0 = nI n) (hn : n ≤ 8) : f_X6_goneOnes N u = some (goF (u.1 1) n) := by
  have key : ∀ (k i m : Nat), i + k = n → k < m → f_X6_goneOnes_L4 N u m (goF (u.1 1) i) (nI i) = some (goF (u.1 1) n) := by
    intro k
    induction k with
    | zero =>
      intro i m h1 h2
      obtain ⟨m, rfl⟩ : ∃ q, m = q + 1 := ⟨m - 1, by omega⟩
      have : i = n := by omega
      subst this
      show f_X6_goneOnes_L4_B N u _ _ _ = _
      unfold f_X6_goneOnes_L4_B
      rw [h0, if_pos (nI_le (Nat.le_refl _) (by omega))]
    | succ k ih =>
      intro i m h1 h2
      obtain ⟨m, rfl⟩ : ∃ q, m = q + 1 := ⟨m - 1, by omega⟩
      show f_X6_goneOnes_L4_B N u _ _ _ = _
      unfold f_X6_goneOnes_L4_B
      have nx := ih (i + 1) m (by omega) (by omega)
      simp only [goF] at nx
      rw [h0, if_neg (nI_ge (by omega) (by omega)), show (5 : Int32) + nI i = nI (5 + i) from nI_add 5 i, og_nI (by omega) (by omega), nI_clamp (by omega), show nI i + 1 = nI (i + 1) from nI_1 i]
      by_cases h4 : u.1 1 (5 + i) = -4
      · rw [if_pos h4, ol]; rw [if_pos h4] at nx; exact nx
      · rw [if_neg h4, or_0]; rw [if_neg h4] at nx; exact nx
  unfold f_X6_goneOnes
  rw [show (0 : Int32) = goF (u.1 1) 0 from rfl, show f_X6_goneOnes_L4 N u N (goF (u.1 1) 0) (goF (u.1 1) 0) = some (goF (u.1 1) n) from key n 0 N (by omega) (by omega)]
  rfl
theorem ok_count {N : Nat} {uc um : zS} (hN : 300 ≤ N) (h : RR uc um) (a0 : Int32) : op_count N RR uc um a0 := by
  unfold op_count f_X5_count f_X6_count
  obtain ⟨nA, nF, nT, nB, kn, sl, hG⟩ := h.1
  have hG : RG uc um nA nF nT nB kn sl := hG
  obtain ⟨s1, s2⟩ := RG_stand hN hG
  obtain ⟨⟨⟨a1, a2, a3, a4, a5⟩, ⟨b1, b2, b3, b4, b5⟩, c1, c2, c3, c4, c5⟩, ⟨⟨d1, d2, d3, d4, d5, d6, d7, d8⟩, e2, e3, e4, e5⟩⟩ := id hG
  have d6 : uc.1 7 4 = um.1 1 39 := d6
  rw [s1, s2, gone1 hN (d1.trans a1) b1 e2, gone2 hN a1 b1, d1, d2, d3, d4, d6]
  by_cases q0 : a0 = 0
  · rw [if_pos q0, if_pos q0]; exact ⟨_, rfl, rfl, h⟩
  by_cases q1 : a0 = 1
  · rw [if_neg q0, if_neg q0, if_pos q1, if_pos q1]; exact ⟨_, rfl, rfl, h⟩
  by_cases q2 : a0 = 2
  · rw [if_neg q0, if_neg q0, if_neg q1, if_neg q1, if_pos q2, if_pos q2]; exact ⟨_, rfl, rfl, h⟩
  by_cases q3 : a0 = 3
  · rw [if_neg q0, if_neg q0, if_neg q1, if_neg q1, if_neg q2, if_neg q2, if_pos q3, if_pos q3]; exact ⟨_, rfl, rfl, h⟩
  by_cases q4 : a0 = 4
  · rw [if_neg q0, if_neg q0, if_neg q1, if_neg q1, if_neg q2, if_neg q2, if_neg q3, if_neg q3, if_pos q4, if_pos q4]; exact ⟨_, rfl, rfl, h⟩
  by_cases q5 : a0 = 5
  · rw [if_neg q0, if_neg q0, if_neg q1, if_neg q1, if_neg q2, if_neg q2, if_neg q3, if_neg q3, if_neg q4, if_neg q4, if_pos q5, if_pos q5]; exact ⟨_, rfl, rfl, h⟩
  by_cases q6 : a0 = 6
  · rw [if_neg q0, if_neg q0, if_neg q1, if_neg q1, if_neg q2, if_neg q2, if_neg q3, if_neg q3, if_neg q4, if_neg q4, if_neg q5, if_neg q5, if_pos q6, if_pos q6]
    unfold f_X1_figureOfBeat
    rw [d3, a3, a4]
    by_cases hz : nT = 0
    · subst hz
      rw [if_neg (show ¬ (0 : Int32) < nI 0 by decide), if_pos (show nI 0 = (0 : Int32) by decide)]; exact ⟨_, rfl, rfl, h⟩
    · have hlt := Nat.mod_lt nB (show 0 < nT by omega)
      rw [if_pos (show (0 : Int32) < nI nT from nI_lt (a := 0) (by omega) (by omega)), if_neg (show ¬ nI nT = 0 from nI_ne0 (by omega) (by omega)), og_neN (by omega) (by omega), og_neN (by omega) (by omega), pk_rem (by omega) (by omega) (by omega), show (23 : Int32) + nI (nB % nT) = nI (23 + nB % nT) from nI_add 23 _, og_nI (by omega) (by omega), og_nI (by omega) (by omega), nI_clamp (by omega), nI_clamp (by omega), ob_s]
      exact ⟨_, rfl, by rw [← e4 _ hlt], h⟩
  by_cases q7 : a0 = 7
  · rw [if_neg q0, if_neg q0, if_neg q1, if_neg q1, if_neg q2, if_neg q2, if_neg q3, if_neg q3, if_neg q4, if_neg q4, if_neg q5, if_neg q5, if_neg q6, if_neg q6, if_pos q7]; exact ⟨_, rfl, rfl, h⟩
  · rw [if_neg q0, if_neg q0, if_neg q1, if_neg q1, if_neg q2, if_neg q2, if_neg q3, if_neg q3, if_neg q4, if_neg q4, if_neg q5, if_neg q5, if_neg q6, if_neg q6, if_neg q7]; exact ⟨_, rfl, rfl, h⟩
