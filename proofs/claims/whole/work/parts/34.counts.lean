/-! counts -/
theorem lgeq (x y : Int64) : lg_cmp x y = 0 ↔ x = y := by
  unfold lg_cmp
  by_cases c1 : x > y
  · rw [if_pos c1]
    refine ⟨fun h => absurd h (by decide), fun h => ?_⟩
    exfalso
    have c1 : y < x := c1
    rw [fa_lt64, h] at c1; omega
  · rw [if_neg c1]
    by_cases c2 : x = y
    · rw [if_pos c2]; exact ⟨fun _ => c2, fun _ => rfl⟩
    · rw [if_neg c2]; exact ⟨fun h => absurd h (by decide), fun h => absurd h c2⟩
theorem seen8 {v : Nat} (hv : v < 16) (x : Int32) : f_X5_seenFrom x (nI v) = f_X5_seenFrom x (nI (v % 8)) := by
  have d : ∀ v, v < 16 → f_X5_leftBy8 (nI v) = f_X5_leftBy8 (nI (v % 8)) := by decide
  unfold f_X5_seenFrom
  rw [d v hv]
theorem itemOf_eq {u : zS} {s a : Nat} (h : 24 * s + a < 96) : f_X3_itemOf u (nI s) (nI a) = some (u.2 36 (24 * s + a)) := by
  unfold f_X3_itemOf
  rw [show nI s * 24 = nI (s * 24) from pk_mul s 24, nI_add, og_nI (by omega) (by omega), nI_clamp (by omega), show s * 24 + a = 24 * s + a by omega]
theorem told_eq {N : Nat} {uc um : zS} {p s j n ln sz m : Nat} (hN : 300 ≤ N) (hs : s < 4) (hp : p < 8) (hm : m < 256) (hn : n ≤ 8) (hT : shT uc um s ln sz) (hj : j + n ≤ sz) (v6 v8 v9 v10 : Int32) : ∃ r, (r = 0 ∨ r = 1) ∧ f_X5_isSeenAsTold N uc (nI m) (nI p) (nI s) (nI j) (nI n) = some r ∧ f_X6_counts_L91 N um (nI p) (nI s) (nI j) (nI n) v6 v8 v9 v10 (nI m) N 1 0 = some r := by
  obtain ⟨t1, t2, t3, t4, t5, t6, t7⟩ := hT
  have key : ∀ (k t q q2 : Nat), t + k = n → k < q → k + 1 < q2 → (f_X5_isSeenAsTold_L3 N uc (nI m) (nI p) (nI s) (nI j) (nI n) q (nI t) = some (.inr ()) ∧ f_X6_counts_L91 N um (nI p) (nI s) (nI j) (nI n) v6 v8 v9 v10 (nI m) q2 1 (nI t) = some 1) ∨ (f_X5_isSeenAsTold_L3 N uc (nI m) (nI p) (nI s) (nI j) (nI n) q (nI t) = some (.inl 0) ∧ f_X6_counts_L91 N um (nI p) (nI s) (nI j) (nI n) v6 v8 v9 v10 (nI m) q2 1 (nI t) = some 0) := by
    intro k
    induction k with
    | zero =>
      intro t q q2 w1 w2 w3
      obtain ⟨q, rfl⟩ : ∃ z, q = z + 1 := ⟨q - 1, by omega⟩
      obtain ⟨q2, rfl⟩ : ∃ z, q2 = z + 1 := ⟨q2 - 1, by omega⟩
      have : t = n := by omega
      subst this
      left
      constructor
      · show f_X5_isSeenAsTold_L3_B N _ _ _ _ _ _ _ _ = _
        unfold f_X5_isSeenAsTold_L3_B
        rw [if_pos (nI_le (Nat.le_refl _) (by omega))]
      · show f_X6_counts_L91_B N _ _ _ _ _ _ _ _ _ _ _ _ _ = _
        unfold f_X6_counts_L91_B
        rw [if_pos (nI_le (Nat.le_refl _) (by omega))]
    | succ k ih =>
      intro t q q2 w1 w2 w3
      obtain ⟨q, rfl⟩ : ∃ z, q = z + 1 := ⟨q - 1, by omega⟩
      obtain ⟨q2, rfl⟩ : ∃ z, q2 = z + 1 := ⟨q2 - 1, by omega⟩
      have nx := ih (t + 1) q q2 (by omega) (by omega) (by omega)
      have eC : f_X5_isSeenAsTold_L3 N uc (nI m) (nI p) (nI s) (nI j) (nI n) (q + 1) (nI t) = if uc.2 36 (24 * s + (j + t)) = Int32.toInt64 (f_X5_seenFrom (nI m) (nI ((p + t) % 8))) then f_X5_isSeenAsTold_L3 N uc (nI m) (nI p) (nI s) (nI j) (nI n) q (nI (t + 1)) else some (.inl 0) := by
        show f_X5_isSeenAsTold_L3_B N _ _ _ _ _ _ _ _ = _
        unfold f_X5_isSeenAsTold_L3_B
        rw [if_neg (nI_ge (by omega) (by omega)), nI_add, itemOf_eq (by omega), ob_s, nI_add, seen8 (by omega), show nI t + 1 = nI (t + 1) from nI_1 t]
        by_cases hc : uc.2 36 (24 * s + (j + t)) = Int32.toInt64 (f_X5_seenFrom (nI m) (nI ((p + t) % 8)))
        · rw [if_pos ((lgeq _ _).mpr hc), if_pos hc]
        · rw [if_neg (fun z => hc ((lgeq _ _).mp z)), if_neg hc]
      have eM : f_X6_counts_L91 N um (nI p) (nI s) (nI j) (nI n) v6 v8 v9 v10 (nI m) (q2 + 1) 1 (nI t) = if uc.2 36 (24 * s + (j + t)) = Int32.toInt64 (f_X5_seenFrom (nI m) (nI ((p + t) % 8))) then f_X6_counts_L91 N um (nI p) (nI s) (nI j) (nI n) v6 v8 v9 v10 (nI m) q2 1 (nI (t + 1)) else f_X6_counts_L91 N um (nI p) (nI s) (nI j) (nI n) v6 v8 v9 v10 (nI m) q2 0 (nI (t + 1)) := by
        show f_X6_counts_L91_B N _ _ _ _ _ _ _ _ _ _ _ _ _ = _
        unfold f_X6_counts_L91_B
        have h8 := Nat.mod_lt (p + t) (show 0 < 8 by omega)
        have it := t7 (j + t) (by omega)
        rw [if_neg (nI_ge (by omega) (by omega)), if_neg (show ¬ (1 : Int32) = 0 by decide), nI_add, show nI (p + t) - nI (p + t) / 8 * 8 = nI ((p + t) % 8) from pk_rem (a := p + t) (d := 8) (by omega) (by omega) (by omega), seenOf_eq hN hm h8, ob_s, show (24 : Int32) * nI s = nI (24 * s) from pk_mul 24 s, nI_add, nI_add, og_nI (by omega) (by omega), nI_clamp (by omega), show 24 * s + j + t = 24 * s + (j + t) by omega, ← it, show nI t + 1 = nI (t + 1) from nI_1 t]
        by_cases hc : uc.2 36 (24 * s + (j + t)) = Int32.toInt64 (f_X5_seenFrom (nI m) (nI ((p + t) % 8)))
        · rw [if_pos ((lgeq _ _).mpr hc.symm), if_pos hc]
        · rw [if_neg (fun z => hc ((lgeq _ _).mp z).symm), if_neg hc]
      rw [eC, eM]
      by_cases hc : uc.2 36 (24 * s + (j + t)) = Int32.toInt64 (f_X5_seenFrom (nI m) (nI ((p + t) % 8)))
      · rw [if_pos hc, if_pos hc]; exact nx
      · right
        rw [if_neg hc, if_neg hc]
        refine ⟨rfl, ?_⟩
        obtain ⟨q2, rfl⟩ : ∃ z, q2 = z + 1 := ⟨q2 - 1, by omega⟩
        show f_X6_counts_L91_B N _ _ _ _ _ _ _ _ _ _ _ _ _ = _
        unfold f_X6_counts_L91_B
        by_cases hz : nI n ≤ nI (t + 1)
        · rw [if_pos hz]
        · rw [if_neg hz, if_pos rfl]
  unfold f_X5_isSeenAsTold
  rcases key n 0 N N (by omega) (by omega) (by omega) with ⟨k1, k2⟩ | ⟨k1, k2⟩
  · exact ⟨1, Or.inr rfl, by rw [show f_X5_isSeenAsTold_L3 N uc (nI m) (nI p) (nI s) (nI j) (nI n) N 0 = _ from k1]; rfl, k2⟩
  · exact ⟨0, Or.inl rfl, by rw [show f_X5_isSeenAsTold_L3 N uc (nI m) (nI p) (nI s) (nI j) (nI n) N 0 = _ from k1]; rfl, k2⟩
theorem bits_le : ∀ m, m < 256 → ∃ b, b ≤ 8 ∧ f_J6_bitCount_0f7a4 (nI m) = nI b := by decide +kernel
theorem ok_counts {N : Nat} {uc um : zS} (hN : 300 ≤ N) (h : RR uc um) (a0 a1 a2 a3 a4 a5 : Int32) : op_counts N RR uc um a0 a1 a2 a3 a4 a5 := by
  unfold op_counts f_X5_counts f_X6_counts
  rw [isPlace_eq, show f_X6_in a4.toInt64 1 8 = f_X5_within a4 1 8 from in_within a4 1 8, show f_X6_in a5.toInt64 0 2 = f_X5_within a5 0 2 from in_within a5 0 2]
  rcases isPl a0 with h0 | ⟨p, hp, rfl, h1⟩
  · rw [if_pos h0, if_pos h0]; exact ⟨_, rfl, rfl, h⟩
  have h1n : ¬ f_X5_isPlace (nI p) = 0 := by rw [h1]; decide
  rw [if_neg h1n, if_neg h1n]
  rcases isSh a1 with h0 | ⟨s, hs, rfl, h3⟩
  · rw [if_pos h0, if_pos (isLane_no h0)]; exact ⟨_, rfl, rfl, h⟩
  have h3n : ¬ f_X5_isSheet (nI s) = 0 := by rw [h3]; decide
  rw [if_neg h3n, isLane_eq hs]
  by_cases hl : f_X5_isLane a2 = 0
  · rw [if_pos hl, if_pos hl]; exact ⟨_, rfl, rfl, h⟩
  rw [if_neg hl, if_neg hl]
  rcases wi a4 (lo := 1) (hi := 8) (by omega) (by omega) with h0 | ⟨n, hn1, hn, rfl, h2⟩
  · have h0 : f_X5_within a4 1 8 = 0 := h0
    rw [if_pos h0, if_pos h0]; exact ⟨_, rfl, rfl, h⟩
  have h2n : ¬ f_X5_within (nI n) 1 8 = 0 := by rw [show f_X5_within (nI n) 1 8 = 1 from h2]; decide
  rw [if_neg h2n, if_neg h2n]
  by_cases hw : f_X5_within a5 0 2 = 0
  · rw [if_pos hw, if_pos hw]; exact ⟨_, rfl, rfl, h⟩
  rw [if_neg hw, if_neg hw]
  obtain ⟨r, e1, e2, e3⟩ := ref_eq h.2.2.2 hs a2 a3 (nI n)
  rw [e1, e2, ob_s, ob_s]
  rcases e3 with e3 | ⟨rfl, ln, sz, j, c, hT, rfl, rfl, ec, hjc⟩
  · rw [if_neg e3, if_neg e3]; exact ⟨_, rfl, rfl, h⟩
  have hsz := hT.2.1
  have ec : c = n := ((nI_eq (by omega) (by omega)).mp ec).symm
  subst ec
  rw [if_pos (show (0 : Int32) ≤ 0 by decide), if_pos (show (0 : Int32) ≤ 0 by decide)]
  have key : ∀ (k m q q2 cnt : Nat) (lC lM mo : Int32), m + k = 256 → k < q → k < q2 → cnt ≤ m → ((cnt = 0 ∧ lC = -4 ∧ lM = 1000000 ∧ mo = -4) ∨ (0 < cnt ∧ (∃ a, a ≤ 8 ∧ lC = nI a) ∧ lM = lC ∧ ∃ a, a ≤ 8 ∧ mo = nI a)) → ∃ (cnt2 : Nat) (lC2 lM2 mo2 : Int32), f_X5_counts_L81 N uc (nI p) (nI s) (nI j) (nI c) a5 q (nI cnt) lC mo (nI m) = some (nI cnt2, lC2, mo2) ∧ f_X6_counts_L77 N um (nI p) (nI s) (nI j) (nI c) a5 q2 (nI cnt) lM mo (nI m) = some (nI cnt2, lM2, mo2) ∧ cnt2 ≤ 256 ∧ ((cnt2 = 0 ∧ lC2 = -4 ∧ lM2 = 1000000 ∧ mo2 = -4) ∨ (0 < cnt2 ∧ (∃ a, a ≤ 8 ∧ lC2 = nI a) ∧ lM2 = lC2 ∧ ∃ a, a ≤ 8 ∧ mo2 = nI a)) := by
    intro k
    induction k with
    | zero =>
      intro m q q2 cnt lC lM mo w1 w2 w3 w4 w5
      obtain ⟨q, rfl⟩ : ∃ z, q = z + 1 := ⟨q - 1, by omega⟩
      obtain ⟨q2, rfl⟩ : ∃ z, q2 = z + 1 := ⟨q2 - 1, by omega⟩
      have : m = 256 := by omega
      subst this
      refine ⟨cnt, lC, lM, mo, ?_, ?_, w4, w5⟩
      · show f_X5_counts_L81_B N _ _ _ _ _ _ _ _ _ _ _ = _
        unfold f_X5_counts_L81_B
        rw [if_pos (show (256 : Int32) ≤ nI 256 by decide)]
      · show f_X6_counts_L77_B N _ _ _ _ _ _ _ _ _ _ _ = _
        unfold f_X6_counts_L77_B
        rw [if_pos (show (256 : Int32) ≤ nI 256 by decide)]
    | succ k ih =>
      intro m q q2 cnt lC lM mo w1 w2 w3 w4 w5
      obtain ⟨q, rfl⟩ : ∃ z, q = z + 1 := ⟨q - 1, by omega⟩
      obtain ⟨q2, rfl⟩ : ∃ z, q2 = z + 1 := ⟨q2 - 1, by omega⟩
      obtain ⟨rr, hr, g1, g2⟩ := told_eq (N := N) hN hs hp (show m < 256 by omega) hn hT hjc a5 (nI cnt) lM mo
      obtain ⟨bb, hbb, eb⟩ := bits_le m (by omega)
      have hone := ones_eq hN (show m < 256 by omega)
      rw [eb] at hone
      have sC : f_X5_counts_L81 N uc (nI p) (nI s) (nI j) (nI c) a5 (q + 1) (nI cnt) lC mo (nI m) = if rr = 0 then f_X5_counts_L81 N uc (nI p) (nI s) (nI j) (nI c) a5 q (nI cnt) lC mo (nI (m + 1)) else f_X5_counts_L81 N uc (nI p) (nI s) (nI j) (nI c) a5 q (nI (cnt + 1)) (if lC = -4 then nI bb else if nI bb < lC then nI bb else lC) (if mo < nI bb then nI bb else mo) (nI (m + 1)) := by
        show f_X5_counts_L81_B N _ _ _ _ _ _ _ _ _ _ _ = _
        unfold f_X5_counts_L81_B
        rw [if_neg (show ¬ (256 : Int32) ≤ nI m from nI_ge (a := m) (b := 256) (by omega) (by omega)), g1, ob_s, eb, ol, ol, ol, ol, show nI m + 1 = nI (m + 1) from nI_1 m, show nI cnt + 1 = nI (cnt + 1) from nI_1 cnt]
        by_cases z1 : rr = 0
        · rw [if_pos z1, if_pos z1]
        · rw [if_neg z1, if_neg z1]
          by_cases z2 : lC = -4
          · rw [if_pos z2, if_pos z2]
          · rw [if_neg z2, if_neg z2]
      have sM : f_X6_counts_L77 N um (nI p) (nI s) (nI j) (nI c) a5 (q2 + 1) (nI cnt) lM mo (nI m) = if rr = 0 then f_X6_counts_L77 N um (nI p) (nI s) (nI j) (nI c) a5 q2 (nI cnt) lM mo (nI (m + 1)) else f_X6_counts_L77 N um (nI p) (nI s) (nI j) (nI c) a5 q2 (nI (cnt + 1)) (if lM ≤ nI bb then lM else nI bb) (if nI bb ≤ mo then mo else nI bb) (nI (m + 1)) := by
        show f_X6_counts_L77_B N _ _ _ _ _ _ _ _ _ _ _ = _
        unfold f_X6_counts_L77_B f_X6_counts_J148 f_X6_counts_J160 f_X6_counts_J186 f_X6_counts_J188
        rw [if_neg (show ¬ (256 : Int32) ≤ nI m from nI_ge (a := m) (b := 256) (by omega) (by omega)), g2, ob_s, hone, ob_s, ob_s, ob_s, show nI m + 1 = nI (m + 1) from nI_1 m, show nI cnt + 1 = nI (cnt + 1) from nI_1 cnt]
        by_cases z1 : rr = 0
        · simp only [if_pos z1]
          rw [show nI cnt + 0 = nI cnt from by simp]
        · simp only [if_neg z1, ob_s]
          by_cases z2 : lM ≤ nI bb <;> by_cases z3 : nI bb ≤ mo <;> simp only [z2, z3, if_true, if_false]
      rw [sC, sM]
      rcases hr with hr | hr
      · rw [if_pos hr, if_pos hr]
        exact ih (m + 1) q q2 cnt lC lM mo (by omega) (by omega) (by omega) (by omega) w5
      · have hne : ¬ rr = 0 := by rw [hr]; decide
        rw [if_neg hne, if_neg hne]
        rcases w5 with ⟨y1, y2, y3, y4⟩ | ⟨y1, ⟨la, hla, ela⟩, y3, ma, hma, ema⟩
        · subst y2; subst y3; subst y4
          have n4 : (-4 : Int32).toInt = -4 := by decide
          have z1 : (-4 : Int32) < nI bb := by
            rw [fa_lt, nI_toInt (by omega), n4]; omega
          have z2 : ¬ nI bb ≤ (-4 : Int32) := by
            rw [fa_le, nI_toInt (by omega), n4]; omega
          rw [if_pos rfl, if_pos z1, if_neg (show ¬ (1000000 : Int32) ≤ nI bb from nI_ge (a := bb) (b := 1000000) (by omega) (by omega)), if_neg z2]
          exact ih (m + 1) q q2 (cnt + 1) _ _ _ (by omega) (by omega) (by omega) (by omega) (Or.inr ⟨by omega, ⟨bb, hbb, rfl⟩, rfl, bb, hbb, rfl⟩)
        · subst y3; subst ela; subst ema
          have q1 : (if nI la = -4 then nI bb else if nI bb < nI la then nI bb else nI la) = nI (if bb < la then bb else la) := by
            rw [if_neg (nI_n4 (by omega))]
            by_cases z : bb < la
            · rw [if_pos (nI_lt z (by omega)), if_pos z]
            · rw [if_neg (nI_nlt (by omega) (by omega)), if_neg z]
          have q2' : (if nI la ≤ nI bb then nI la else nI bb) = nI (if bb < la then bb else la) := by
            by_cases z : bb < la
            · rw [if_neg (nI_ge z (by omega)), if_pos z]
            · rw [if_pos (nI_le (by omega) (by omega)), if_neg z]
          have q3 : (if nI ma < nI bb then nI bb else nI ma) = nI (if ma < bb then bb else ma) := by
            by_cases z : ma < bb
            · rw [if_pos (nI_lt z (by omega)), if_pos z]
            · rw [if_neg (nI_nlt (by omega) (by omega)), if_neg z]
          have q4 : (if nI bb ≤ nI ma then nI ma else nI bb) = nI (if ma < bb then bb else ma) := by
            by_cases z : ma < bb
            · rw [if_neg (nI_ge z (by omega)), if_pos z]
            · rw [if_pos (nI_le (by omega) (by omega)), if_neg z]
          rw [q1, q2', q3, q4]
          exact ih (m + 1) q q2 (cnt + 1) _ _ _ (by omega) (by omega) (by omega) (by omega) (Or.inr ⟨by omega, ⟨_, by split <;> omega, rfl⟩, rfl, _, by split <;> omega, rfl⟩)
  obtain ⟨cnt2, lC2, lM2, mo2, k1, k2, k3, k4⟩ := key 256 0 N N 0 (-4) 1000000 (-4) (by omega) (by omega) (by omega) (by omega) (Or.inl ⟨rfl, rfl, rfl, rfl⟩)
  rw [show f_X5_counts_L81 N uc (nI p) (nI s) (nI j) (nI c) a5 N 0 (-4) (-4) 0 = _ from k1, show f_X6_counts_L77 N um (nI p) (nI s) (nI j) (nI c) a5 N 0 1000000 (-4) 0 = _ from k2, ob_s, ob_s]
  by_cases z0 : a5 = 0
  · rw [if_pos z0, if_pos z0]; exact ⟨_, rfl, rfl, h⟩
  rw [if_neg z0, if_neg z0]
  rcases k4 with ⟨rfl, rfl, rfl, rfl⟩ | ⟨y1, _, rfl, _⟩
  · rw [if_pos (show nI 0 = (0 : Int32) by decide)]
    by_cases z1 : a5 = 1
    · rw [if_pos z1]; exact ⟨_, rfl, rfl, h⟩
    · rw [if_neg z1]; exact ⟨_, rfl, rfl, h⟩
  · rw [if_neg (show ¬ nI cnt2 = (0 : Int32) from nI_ne0 y1 (by omega))]
    by_cases z1 : a5 = 1
    · rw [if_pos z1]; exact ⟨_, rfl, rfl, h⟩
    · rw [if_neg z1]; exact ⟨_, rfl, rfl, h⟩
