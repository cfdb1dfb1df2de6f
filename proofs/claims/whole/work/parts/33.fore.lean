/-! then, film, been -/
theorem ok_then {N : Nat} {uc um : zS} (hN : 300 ≤ N) (h : RR uc um) (a0 a1' a2 : Int32) : op_then N RR uc um a0 a1' a2 := by
  unfold op_then f_X5_then f_X6_then f_X6_isTime
  obtain ⟨nA, nF, nT, nB, kn, sl, hW, hc⟩ := h.1
  have a1 := hW.1.1
  have b1 := hW.2.1.1
  have d1 := hc.1.1
  rw [isPlace_eq, show f_X6_in a1'.toInt64 0 2000000000 = f_X5_within a1' 0 2000000000 from in_within a1' 0 2000000000, show f_X6_in a2.toInt64 0 1 = f_X5_within a2 0 1 from in_within a2 0 1]
  rcases isPl a0 with h0 | ⟨p, hp, rfl, h1⟩
  · rw [if_pos h0, if_pos h0]; exact ⟨_, rfl, rfl, h⟩
  have h1n : ¬ f_X5_isPlace (nI p) = 0 := by rw [h1]; decide
  rw [if_neg h1n, if_neg h1n]
  rcases wi a1' (lo := 0) (hi := 2000000000) (by omega) (by omega) with h0 | ⟨n, _, hn, rfl, h2⟩
  · have h0 : f_X5_within a1' 0 2000000000 = 0 := h0
    rw [if_pos h0, if_pos h0]; exact ⟨_, rfl, rfl, h⟩
  have h2n : ¬ f_X5_within (nI n) 0 2000000000 = 0 := by rw [show f_X5_within (nI n) 0 2000000000 = 1 from h2]; decide
  rw [if_neg h2n, if_neg h2n]
  by_cases h3 : f_X5_within a2 0 1 = 0
  · rw [if_pos h3, if_pos h3]; exact ⟨_, rfl, rfl, h⟩
  rw [if_neg h3, if_neg h3]
  have key : ∀ (k i q q2 : Nat) (S w : Int32), i + k = nA → k < q → k < q2 → (∃ m, m < 256 ∧ S = nI m) → ∃ S2 w2, f_X5_then_L38 N uc (nI p) (nI n) a2 q S w (nI i) = some (S2, w2) ∧ f_X6_then_L36 N um (nI p) (nI n) a2 q2 w S (nI i) = some (w2, S2) ∧ ∃ m, m < 256 ∧ S2 = nI m := by
    intro k
    induction k with
    | zero =>
      intro i q q2 S w e1 e2 e3 e4
      obtain ⟨q, rfl⟩ : ∃ z, q = z + 1 := ⟨q - 1, by omega⟩
      obtain ⟨q2, rfl⟩ : ∃ z, q2 = z + 1 := ⟨q2 - 1, by omega⟩
      have : i = nA := by omega
      subst this
      refine ⟨S, w, ?_, ?_, e4⟩
      · show f_X5_then_L38_B N _ _ _ _ _ _ _ _ = _
        unfold f_X5_then_L38_B
        rw [d1, a1, if_pos (nI_le (Nat.le_refl _) (by omega))]
      · show f_X6_then_L36_B N _ _ _ _ _ _ _ _ = _
        unfold f_X6_then_L36_B
        rw [a1, if_pos (nI_le (Nat.le_refl _) (by omega))]
    | succ k ih =>
      intro i q q2 S w e1 e2 e3 e4
      obtain ⟨q, rfl⟩ : ∃ z, q = z + 1 := ⟨q - 1, by omega⟩
      obtain ⟨q2, rfl⟩ : ∃ z, q2 = z + 1 := ⟨q2 - 1, by omega⟩
      have e : uc.1 2 i = um.1 1 (5 + i) := hc.2.1 i (by omega)
      have hv := hW.2.2.2.1 i (by omega)
      obtain ⟨r, hr⟩ := per_ex hW nB hv
      have hb := bh_vP (n := n) (r := r) hW hv
      have bC := behindC hN hW hc.t (hc.1.2.2.2.1.trans hW.1.2.2.2.1) hv hr (n := n) (by omega)
      have bM := behindM hN hW hv hr (n := n) (by omega)
      generalize bh (um.1 1) nT nB r n (um.1 1 (5 + i)) = y at hb bC bM
      obtain ⟨m, hm, rfl⟩ := e4
      have hS : ∃ m2, m2 < 256 ∧ nI m ||| f_X5_bitOf y = nI m2 := by
        rcases vP_bit hb with ⟨_, g2⟩ | ⟨_, pp, hpp, _, g3, _⟩
        · rw [g2, or_0]; exact ⟨m, hm, rfl⟩
        · rw [g3, fa_or]; exact ⟨m ||| 2 ^ pp, Nat.or_lt_two_pow (n := 8) hm (Nat.pow_lt_pow_right (by omega) hpp), rfl⟩
      obtain ⟨S2, w2, t1, t2, t3⟩ := ih (i + 1) q q2 (nI m ||| f_X5_bitOf y) (if y = nI p then nI i else w) (by omega) (by omega) (by omega) hS
      refine ⟨S2, w2, ?_, ?_, t3⟩
      · show f_X5_then_L38_B N _ _ _ _ _ _ _ _ = _
        unfold f_X5_then_L38_B
        rw [d1, a1, if_neg (nI_ge (by omega) (by omega)), og_nI (by omega) (by omega), nI_clamp (by omega), e, bC, ob_s, ol, show nI i + 1 = nI (i + 1) from nI_1 i, ← t1]
        by_cases hy : y = nI p
        · rw [if_pos hy, if_pos hy]
        · rw [if_neg hy, if_neg hy]
      · show f_X6_then_L36_B N _ _ _ _ _ _ _ _ = _
        unfold f_X6_then_L36_B f_X6_then_J76
        rw [a1, if_neg (nI_ge (by omega) (by omega)), show (5 : Int32) + nI i = nI (5 + i) from nI_add 5 i, og_nI (by omega) (by omega), nI_clamp (by omega), bM, ob_s, show nI i + 1 = nI (i + 1) from nI_1 i, ← t2]
        have eS : ∀ z, (if y = -4 then f_X6_then_L36 N um (nI p) (nI n) a2 q2 z (nI m ||| 0) (nI (i + 1)) else olet (nI m ||| (1 <<< (y &&& (31 : Int32)))) fun w9 => f_X6_then_L36 N um (nI p) (nI n) a2 q2 z w9 (nI (i + 1))) = f_X6_then_L36 N um (nI p) (nI n) a2 q2 z (nI m ||| f_X5_bitOf y) (nI (i + 1)) := by
          intro z
          rcases vP_bit hb with ⟨g1, g2⟩ | ⟨g1, pp, hpp, _, g3, g4⟩
          · rw [if_pos g1, g2]
          · rw [if_neg g1, ol, g3, g4]
        rw [eS, eS]
        by_cases hy : y = nI p
        · rw [if_pos hy, if_pos hy]
        · rw [if_neg hy, if_neg hy]
  obtain ⟨S2, w2, t1, t2, m, hm, rfl⟩ := key nA 0 N N 0 (-4) (by omega) (by omega) (by omega) ⟨0, by omega, rfl⟩
  rw [show f_X5_then_L38 N uc (nI p) (nI n) a2 N 0 (-4) 0 = some (nI m, w2) from t1, show f_X6_then_L36 N um (nI p) (nI n) a2 N (-4) 0 0 = some (w2, nI m) from t2, ob_s, ob_s, seenOf_eq hN hm hp]
  by_cases hz : a2 = 0
  · rw [if_pos hz, if_pos hz]; exact ⟨_, rfl, rfl, h⟩
  · rw [if_neg hz, if_neg hz]; exact ⟨_, rfl, rfl, h⟩
theorem gS_per (W : Nat → Int32) (nT t k : Nat) (x : Int32) : gS W nT (t + k * nT) x = gS W nT t x := by
  unfold gS
  rw [Nat.add_mul_mod_self_right]
theorem wk_add (W : Nat → Int32) (nT s m : Nat) (x : Int32) : ∀ n, wk W nT s (m + n) x = wk W nT (s + m) n (wk W nT s m x)
  | 0 => rfl
  | n + 1 => by show gS W nT (s + (m + n)) (wk W nT s (m + n) x) = _; rw [wk_add W nT s m x n, ← Nat.add_assoc]; rfl
theorem wk_per (W : Nat → Int32) (nT s k : Nat) (x : Int32) : ∀ n, wk W nT (s + k * nT) n x = wk W nT s n x
  | 0 => rfl
  | n + 1 => by show gS W nT (s + k * nT + n) _ = gS W nT (s + n) _; rw [wk_per W nT s k x n, show s + k * nT + n = s + n + k * nT by omega, gS_per]
theorem wk_round (W : Nat → Int32) (nT s j : Nat) (x : Int32) : ∀ q, wk W nT s (q * nT + j) x = wk W nT s j (itR W nT s q x) := by
  have h1 : ∀ q, wk W nT s (q * nT) x = itR W nT s q x := by
    intro q
    induction q with
    | zero => rw [Nat.zero_mul]; rfl
    | succ q ih => rw [Nat.succ_mul, wk_add, ih, wk_per]; rfl
  intro q
  rw [wk_add, h1, wk_per]
theorem itR_mod {W : Nat → Int32} {nT s r : Nat} {x : Int32} (hr : isP W nT s x r) (q : Nat) : itR W nT s (q % r) x = itR W nT s q x := by
  have h1 : ∀ k, itR W nT s (r * k) x = x := by
    intro k
    induction k with
    | zero => rfl
    | succ k ih => rw [Nat.mul_succ, itR_add, ih]; exact hr.2.2.1
  conv => rhs; rw [← Nat.div_add_mod q r, itR_add, h1]
theorem bh_wk {W : Nat → Int32} {nT s r : Nat} {x : Int32} (hr : isP W nT s x r) (n : Nat) : bh W nT s r n x = if nT = 0 then x else wk W nT s n x := by
  unfold bh
  by_cases h0 : nT = 0
  · rw [if_pos h0, if_pos h0]
  · rw [if_neg h0, if_neg h0, itR_mod hr, ← wk_round, Nat.mul_comm, Nat.div_add_mod]
theorem wk_0 {W : Nat → Int32} {nT s : Nat} (h : nT = 0) (x : Int32) : ∀ n, wk W nT s n x = x
  | 0 => rfl
  | n + 1 => by show gS W nT (s + n) _ = x; rw [wk_0 h x n, gS, if_pos h]
theorem bh_wk' {W : Nat → Int32} {nT s r : Nat} {x : Int32} (hr : isP W nT s x r) (n : Nat) : bh W nT s r n x = wk W nT s n x := by
  rw [bh_wk hr]
  by_cases h0 : nT = 0
  · rw [if_pos h0, wk_0 h0]
  · rw [if_neg h0]
theorem low_place : ∀ ln, ln < 4 → (f_X3_lowestBits (nI ln) (Int32.toInt64 (-4)) = Int32.toInt64 (-4)) ∧ ∀ p, p < 8 → f_X3_lowestBits (nI ln) (Int32.toInt64 (nI p)) = Int32.toInt64 (nI p) := by decide +kernel
theorem ok_film {N : Nat} {uc um : zS} (hN : 300 ≤ N) (h : RR uc um) (a0 a1' a2 a3 a4 : Int32) : op_film N RR uc um a0 a1' a2 a3 a4 := by
  unfold op_film f_X5_film f_X6_film
  obtain ⟨nA, nF, nT, nB, kn, sl, hW, hc⟩ := h.1
  have a1 := hW.1.1
  have b1 := hW.2.1.1
  have hB := hW.2.1.2.2.2.1
  have d1 := hc.1.1
  rw [isAngel_eq a1 (d1.trans a1) (by omega), show f_X6_in a1'.toInt64 1 24 = f_X5_within a1' 1 24 from in_within a1' 1 24]
  rcases hasA (d1.trans a1) (by omega) a0 with h0 | ⟨i, hi, rfl, h1⟩
  · rw [if_pos h0, if_pos h0]; exact ⟨_, _, _, rfl, rfl, h⟩
  have h1n : ¬ f_X1_hasAngel 1 uc (nI i) = 0 := by rw [h1]; decide
  rw [if_neg h1n, if_neg h1n]
  rcases wi a1' (lo := 1) (hi := 24) (by omega) (by omega) with h0 | ⟨n, hn1, hn, rfl, h2⟩
  · have h0 : f_X5_within a1' 1 24 = 0 := h0
    rw [if_pos h0, if_pos h0]; exact ⟨_, _, _, rfl, rfl, h⟩
  have h2n : ¬ f_X5_within (nI n) 1 24 = 0 := by rw [show f_X5_within (nI n) 1 24 = 1 from h2]; decide
  rw [if_neg h2n, if_neg h2n]
  rcases isSh a2 with h0 | ⟨s, hs, rfl, h3⟩
  · rw [if_pos h0, if_pos (isLane_no h0)]; exact ⟨_, _, _, rfl, rfl, h⟩
  have h3n : ¬ f_X5_isSheet (nI s) = 0 := by rw [h3]; decide
  rw [if_neg h3n, isLane_eq hs]
  by_cases hl : f_X5_isLane a3 = 0
  · rw [if_pos hl, if_pos hl]; exact ⟨_, _, _, rfl, rfl, h⟩
  rw [if_neg hl, if_neg hl]
  obtain ⟨r, e1, e2, e3⟩ := ref_eq h.2.2.2 hs a3 a4 (nI n)
  rw [e1, e2, ob_s, ob_s]
  rcases e3 with e3 | ⟨rfl, ln, sz, j, c, ⟨t1, t2, t3, t4, t5, t6, t7⟩, rfl, rfl, ec, hjc⟩
  · rw [if_neg e3, if_neg e3]; exact ⟨_, _, _, rfl, rfl, h⟩
  have ec : c = n := ((nI_eq (by omega) (by omega)).mp ec).symm
  subst ec
  have e : uc.1 2 i = um.1 1 (5 + i) := hc.2.1 i hi
  have hv := hW.2.2.2.1 i hi
  obtain ⟨pr, hr⟩ := per_ex hW nB hv
  rw [if_pos (show (0 : Int32) ≤ 0 by decide), if_pos (show (0 : Int32) ≤ 0 by decide), og_nI (by omega) (by omega), nI_clamp (by omega), e, ol]
  have low : ∀ x, vP x → f_X3_lowestBits (nI ln) (Int32.toInt64 x) = Int32.toInt64 x := by
    rintro x (rfl | ⟨p, hp, rfl⟩)
    · exact (low_place ln t1).1
    · exact (low_place ln t1).2 p hp
  have kC : ∀ (k a q : Nat) (x : zS), a + k = c → k < q → x.1 = uc.1 → (∀ z, x.2 36 z = if 24 * s + j ≤ z ∧ z < 24 * s + j + a then Int32.toInt64 (wk (um.1 1) nT nB (z - (24 * s + j) + 1) (um.1 1 (5 + i))) else uc.2 36 z) → ∃ v, f_X5_film_L75 N (nI c) (nI s) (nI j) q x (wk (um.1 1) nT nB a (um.1 1 (5 + i))) (nI a) = some v ∧ v.1 = uc.1 ∧ ∀ z, v.2 36 z = if 24 * s + j ≤ z ∧ z < 24 * s + j + c then Int32.toInt64 (wk (um.1 1) nT nB (z - (24 * s + j) + 1) (um.1 1 (5 + i))) else uc.2 36 z := by
    intro k
    induction k with
    | zero =>
      intro a q x w1 w2 w3 w4
      obtain ⟨q, rfl⟩ : ∃ z, q = z + 1 := ⟨q - 1, by omega⟩
      have : a = c := by omega
      subst this
      refine ⟨x, ?_, w3, w4⟩
      show f_X5_film_L75_B N _ _ _ _ _ _ _ = _
      unfold f_X5_film_L75_B
      rw [if_pos (nI_le (Nat.le_refl _) (by omega))]
    | succ k ih =>
      intro a q x w1 w2 w3 w4
      obtain ⟨q, rfl⟩ : ∃ z, q = z + 1 := ⟨q - 1, by omega⟩
      show ∃ v, f_X5_film_L75_B N _ _ _ _ _ _ _ = _ ∧ _
      unfold f_X5_film_L75_B f_X3_put
      have hT : cT 1 x (um.1 1) nF nT := hc.t.congr (by rw [w3]) (by rw [w3]) (by rw [w3])
      have x9 : x.1 1 9 = nI nB := by rw [w3]; exact hc.1.2.2.2.1.trans hW.1.2.2.2.1
      have hvw := wk_vP hW nB hv a
      rw [if_neg (nI_ge (by omega) (by omega)), x9, nI_add, goesOn_eq hW hT (by omega) hvw, ob_s, og_nI (by omega) (by omega), nI_add, show nI s * 24 = nI (s * 24) from pk_mul s 24, nI_add, og_nI (by omega) (by omega), nI_clamp (by omega), nI_clamp (by omega), w3, t3, low _ (gS_vP hW _ hvw), ol, ob_s, show nI a + 1 = nI (a + 1) from nI_1 a]
      refine ih (a + 1) q _ (by omega) (by omega) w3 (fun z => ?_)
      rw [wL_2, if_pos rfl]
      by_cases ez : z = s * 24 + (j + a)
      · rw [if_pos ez, if_pos (by omega), show z - (24 * s + j) + 1 = a + 1 by omega]; rfl
      · rw [if_neg ez, w4]
        by_cases ez2 : 24 * s + j ≤ z ∧ z < 24 * s + j + a
        · rw [if_pos ez2, if_pos (by omega)]
        · rw [if_neg ez2, if_neg (by omega)]
  have kM : ∀ (k a q : Nat) (x : zS), a + k = c → k < q → x.1 = um.1 → (∀ z, x.2 3 z = if 24 * s + j ≤ z ∧ z < 24 * s + j + a then Int32.toInt64 (wk (um.1 1) nT nB (z - (24 * s + j) + 1) (um.1 1 (5 + i))) else um.2 3 z) → ∃ v, f_X6_film_L54 N (nI i) (nI c) (nI s) (nI j) q x (nI a) = some v ∧ v.1 = um.1 ∧ ∀ z, v.2 3 z = if 24 * s + j ≤ z ∧ z < 24 * s + j + c then Int32.toInt64 (wk (um.1 1) nT nB (z - (24 * s + j) + 1) (um.1 1 (5 + i))) else um.2 3 z := by
    intro k
    induction k with
    | zero =>
      intro a q x w1 w2 w3 w4
      obtain ⟨q, rfl⟩ : ∃ z, q = z + 1 := ⟨q - 1, by omega⟩
      have : a = c := by omega
      subst this
      refine ⟨x, ?_, w3, w4⟩
      show f_X6_film_L54_B N _ _ _ _ _ _ _ = _
      unfold f_X6_film_L54_B
      rw [if_pos (nI_le (Nat.le_refl _) (by omega))]
    | succ k ih =>
      intro a q x w1 w2 w3 w4
      obtain ⟨q, rfl⟩ : ∃ z, q = z + 1 := ⟨q - 1, by omega⟩
      show ∃ v, f_X6_film_L54_B N _ _ _ _ _ _ _ = _ ∧ _
      unfold f_X6_film_L54_B
      have hX : okW (x.1 1) nA nF nT nB kn := by rw [w3]; exact hW
      have bM := behindM (N := N) (um := x) hN hX (x := um.1 1 (5 + i)) hv (by rw [w3]; exact hr) (n := a + 1) (by omega)
      rw [if_neg (nI_ge (by omega) (by omega)), show (5 : Int32) + nI i = nI (5 + i) from nI_add 5 i, og_nI (by omega) (by omega), nI_clamp (by omega), show nI a + 1 = nI (a + 1) from nI_1 a, show x.1 1 (5 + i) = um.1 1 (5 + i) by rw [w3], bM, ob_s, show (24 : Int32) * nI s = nI (24 * s) from pk_mul 24 s, nI_add, nI_add, og_nI (by omega) (by omega), nI_clamp (by omega), ol]
      refine ih (a + 1) q _ (by omega) (by omega) w3 (fun z => ?_)
      rw [wL_2, if_pos rfl]
      by_cases ez : z = 24 * s + j + a
      · rw [if_pos ez, if_pos (by omega), show z - (24 * s + j) + 1 = a + 1 by omega, w3, bh_wk' hr]
      · rw [if_neg ez, w4]
        by_cases ez2 : 24 * s + j ≤ z ∧ z < 24 * s + j + a
        · rw [if_pos ez2, if_pos (by omega)]
        · rw [if_neg ez2, if_neg (by omega)]
  obtain ⟨vc, p1, p2, p3⟩ := kC c 0 N uc (by omega) (by omega) rfl (fun z => by rw [if_neg (by omega)])
  obtain ⟨vm, q1, q2, q3⟩ := kM c 0 N um (by omega) (by omega) rfl (fun z => by rw [if_neg (by omega)])
  rw [show f_X5_film_L75 N (nI c) (nI s) (nI j) N uc (um.1 1 (5 + i)) 0 = some vc from p1, show f_X6_film_L54 N (nI i) (nI c) (nI s) (nI j) N um 0 = some vm from q1]
  refine ⟨_, _, _, rfl, rfl, ?_⟩
  refine RR_sh h (fun s2 hs2 => ?_) (fun c hc => by rw [p2]) (fun c hc => by rw [q2])
  rw [p2, q2]
  rcases h.2.2.2 s2 hs2 with g | ⟨ln2, sz2, w1, w2, w3, w4, w5, w6, w7⟩
  · exact Or.inl g
  · right
    refine ⟨ln2, sz2, w1, w2, w3, w4, w5, w6, fun i2 hi2 => ?_⟩
    rw [p3, q3]
    by_cases ez : 24 * s + j ≤ 24 * s2 + i2 ∧ 24 * s2 + i2 < 24 * s + j + c
    · rw [if_pos ez, if_pos ez]
    · rw [if_neg ez, if_neg ez]; exact w7 i2 hi2
/-- the set of all places from the start on, m beats on -/
def bnF (W : Nat → Int32) (nT s : Nat) (x : Int32) : Nat → Int32
  | 0 => f_X5_bitOf x
  | m + 1 => bnF W nT s x m ||| f_X5_bitOf (wk W nT s (m + 1) x)
theorem or_a (x y z : Int32) : x ||| y ||| z = x ||| (y ||| z) := Int32.or_assoc x y z
theorem bn_in (W : Nat → Int32) (nT s : Nat) (x : Int32) : ∀ (m t : Nat), t ≤ m → bnF W nT s x m ||| f_X5_bitOf (wk W nT s t x) = bnF W nT s x m
  | 0, t, h => by
    have : t = 0 := by omega
    subst this
    exact Int32.or_self
  | m + 1, t, h => by
    by_cases ht : t = m + 1
    · subst ht
      show (bnF W nT s x m ||| _) ||| _ = _
      rw [or_a, Int32.or_self]; rfl
    · show (bnF W nT s x m ||| _) ||| _ = (bnF W nT s x m ||| _)
      rw [or_a, Int32.or_comm (f_X5_bitOf (wk W nT s (m + 1) x)), ← or_a, bn_in W nT s x m t (by omega)]
theorem bn_per {W : Nat → Int32} {nT s r : Nat} {x : Int32} (hr : isP W nT s x r) : ∀ k, bnF W nT s x (r * nT + k) = bnF W nT s x (r * nT)
  | 0 => rfl
  | k + 1 => by
    show bnF W nT s x (r * nT + k) ||| f_X5_bitOf (wk W nT s (r * nT + k + 1) x) = _
    rw [Nat.add_assoc, wk_round, hr.2.2.1, ← bn_per hr k]
    by_cases hk : k + 1 ≤ r * nT + k
    · exact bn_in W nT s x _ _ hk
    · -- no tune: one stays
      have h1 := hr.1
      have h0 : nT = 0 := by
        rcases Nat.eq_zero_or_pos nT with q | q
        · exact q
        · have := Nat.mul_pos h1 q; omega
      rw [wk_0 h0]
      exact bn_in W nT s x _ 0 (by omega)
theorem ok_been {N : Nat} {uc um : zS} (hN : 300 ≤ N) (h : RR uc um) (a0 : Int32) : op_been N RR uc um a0 := by
  unfold op_been f_X5_been f_X6_been
  obtain ⟨nA, nF, nT, nB, kn, sl, hW, hc⟩ := h.1
  have a1 := hW.1.1
  have b1 := hW.2.1.1
  have b3 := hW.2.1.2.2.1
  have hB := hW.2.1.2.2.2.1
  have d1 := hc.1.1
  rw [isAngel_eq a1 (d1.trans a1) (by omega)]
  rcases hasA (d1.trans a1) (by omega) a0 with h0 | ⟨i, hi, rfl, h1⟩
  · rw [if_pos h0, if_pos h0]; exact ⟨_, rfl, rfl, h⟩
  have h1n : ¬ f_X1_hasAngel 1 uc (nI i) = 0 := by rw [h1]; decide
  have e : uc.1 2 i = um.1 1 (5 + i) := hc.2.1 i hi
  have hv := hW.2.2.2.1 i hi
  obtain ⟨r, hr⟩ := per_ex hW nB hv
  have l8 : uc.1 1 8 = nI nT := hc.1.2.2.1.trans hW.1.2.2.1
  have x9 : uc.1 1 9 = nI nB := hc.1.2.2.2.1.trans hW.1.2.2.2.1
  rw [if_neg h1n, if_neg h1n, show (5 : Int32) + nI i = nI (5 + i) from nI_add 5 i, og_nI (by omega) (by omega), og_nI (by omega) (by omega), nI_clamp (by omega), nI_clamp (by omega), e, ol, ol, ol]
  generalize um.1 1 (5 + i) = x at hv hr
  have key : ∀ (k j q : Nat), j + k = 8 * nT → k < q → f_X5_been_L31 N uc q (wk (um.1 1) nT nB j x) (bnF (um.1 1) nT nB x j) (nI j) = some (bnF (um.1 1) nT nB x (8 * nT)) := by
    intro k
    induction k with
    | zero =>
      intro j q w1 w2
      obtain ⟨q, rfl⟩ : ∃ z, q = z + 1 := ⟨q - 1, by omega⟩
      have : j = 8 * nT := by omega
      subst this
      show f_X5_been_L31_B N _ _ _ _ _ = _
      unfold f_X5_been_L31_B
      rw [l8, show (8 : Int32) * nI nT = nI (8 * nT) from pk_mul 8 nT, if_pos (nI_le (Nat.le_refl _) (by omega))]
    | succ k ih =>
      intro j q w1 w2
      obtain ⟨q, rfl⟩ : ∃ z, q = z + 1 := ⟨q - 1, by omega⟩
      show f_X5_been_L31_B N _ _ _ _ _ = _
      unfold f_X5_been_L31_B
      rw [l8, show (8 : Int32) * nI nT = nI (8 * nT) from pk_mul 8 nT, if_neg (nI_ge (by omega) (by omega)), x9, nI_add, goesOn_eq hW hc.t (by omega) (wk_vP hW nB hv j), ob_s, ol, show nI j + 1 = nI (j + 1) from nI_1 j]
      exact ih (j + 1) q (by omega) (by omega)
  rw [show f_X5_been_L31 N uc N x (f_X5_bitOf x) 0 = some (bnF (um.1 1) nT nB x (8 * nT)) from key (8 * nT) 0 N (by omega) (by omega), ob_s]
  have r1 := hr.1
  have r2 := hr.2.1
  have hle : r * nT ≤ 8 * nT := Nat.mul_le_mul_right nT r2
  have efin : bnF (um.1 1) nT nB x (8 * nT) = bnF (um.1 1) nT nB x (r * nT) := by
    have := bn_per hr (8 * nT - r * nT)
    rw [show r * nT + (8 * nT - r * nT) = 8 * nT by omega] at this
    exact this
  rw [efin]
  rcases vP_bit hv with ⟨g1, g2⟩ | ⟨g1, p, hp, rfl, g3, g4⟩
  · rw [if_pos g1]
    subst g1
    have : ∀ m, bnF (um.1 1) nT nB (-4) m = 0 := by
      intro m
      induction m with
      | zero => exact g2
      | succ m ih => simp only [bnF]; rw [ih, wk_gone, g2]; rfl
    rw [this]
    exact ⟨_, rfl, rfl, h⟩
  rw [if_neg g1, g4, ← g3, hW.1.2.2.1]
  have keyM : ∀ (M : Nat) (hM : M = 0 ∨ (0 < nT ∧ M ≤ 8 * nT)) (k j q : Nat), j + k = M → k < q → f_X6_been_L61 N um (nI M) q (wk (um.1 1) nT nB j (nI p)) (bnF (um.1 1) nT nB (nI p) j) (nI j) = some (bnF (um.1 1) nT nB (nI p) M) := by
    intro M hM k
    induction k with
    | zero =>
      intro j q w1 w2
      obtain ⟨q, rfl⟩ : ∃ z, q = z + 1 := ⟨q - 1, by omega⟩
      have : j = M := by omega
      subst this
      show f_X6_been_L61_B N _ _ _ _ _ _ = _
      unfold f_X6_been_L61_B
      rw [if_pos (nI_le (Nat.le_refl _) (by omega))]
    | succ k ih =>
      intro j q w1 w2
      obtain ⟨q, rfl⟩ : ∃ z, q = z + 1 := ⟨q - 1, by omega⟩
      show f_X6_been_L61_B N _ _ _ _ _ _ = _
      unfold f_X6_been_L61_B
      obtain ⟨z, hz, ez⟩ := wk_place hW nB hp j
      have nx := ih (j + 1) q (by omega) (by omega)
      rw [if_neg (nI_ge (by omega) (by omega)), hW.1.2.2.1, hW.1.2.2.2.1, nI_add, ez, tuneAt hW (by omega) (by omega) hz, ol, show nI j + 1 = nI (j + 1) from nI_1 j, ← ez]
      have hv2 := wk_vP hW nB hv (j + 1)
      obtain ⟨z2, hz2, ez2⟩ := wk_place hW nB hp (j + 1)
      have eb : (1 : Int32) <<< (gS (um.1 1) nT (nB + j) (wk (um.1 1) nT nB j (nI p)) &&& (31 : Int32)) = f_X5_bitOf (wk (um.1 1) nT nB (j + 1) (nI p)) := by
        show (1 : Int32) <<< (wk (um.1 1) nT nB (j + 1) (nI p) &&& (31 : Int32)) = _
        rcases vP_bit hv2 with ⟨y1, _⟩ | ⟨_, _, _, _, y3, y4⟩
        · rw [ez2] at y1; exact absurd y1 (nI_n4 (by omega))
        · rw [y3, y4]
      rw [eb]
      exact nx
  unfold f_X6_been_J56
  rw [ol]
  by_cases h0 : nT = 0
  · rw [if_pos (show nI nT = (0 : Int32) by rw [h0]; decide)]
    have := keyM 0 (Or.inl rfl) 0 0 N (by omega) (by omega)
    rw [show f_X6_been_L61 N um 0 N (nI p) (f_X5_bitOf (nI p)) 0 = some (bnF (um.1 1) nT nB (nI p) 0) from this, h0, Nat.mul_zero]
    exact ⟨_, rfl, rfl, h⟩
  · rw [if_neg (show ¬ nI nT = (0 : Int32) from nI_ne0 (by omega) (by omega)), ringOf_eq hN hW (by omega) hp hr, ob_s, pk_mul]
    rw [show f_X6_been_L61 N um (nI (r * nT)) N (nI p) (f_X5_bitOf (nI p)) 0 = some (bnF (um.1 1) nT nB (nI p) (r * nT)) from keyM (r * nT) (Or.inr ⟨by omega, hle⟩) (r * nT) 0 N (by omega) (by omega)]
    exact ⟨_, rfl, rfl, h⟩
