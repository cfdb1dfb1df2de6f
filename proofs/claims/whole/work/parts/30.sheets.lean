/-! sheets: sheet, drop, item, copy -/
theorem RR_sh {uc um vc vm : zS} (h : RR uc um) (hs : shR vc vm) (hc : ∀ c, c ≤ 32 → vc.1 c = uc.1 c) (hm : ∀ c, c ≤ 2 → vm.1 c = um.1 c) : RR vc vm :=
  ⟨rgR_same h.1 (fun c g1 g2 => hc c (by omega)) (fun k hk => by rw [hm 1 (by omega)]), imR_congr h.2.1 (by rw [hc 0 (by omega)]) (fun c g1 g2 => hc c (by omega)) (by rw [hm 0 (by omega)]) (fun k g1 g2 => by rw [hm 1 (by omega)]), tpR_congr h.2.2.1 (by rw [hc 31 (by omega)]) (hc 32 (by omega)) (by rw [hm 0 (by omega)]) (hm 2 (by omega)) (by rw [hc 27 (by omega)]), hs⟩
/-- sheet s is there, of lane ln, with sz items -/
def shT (uc um : zS) (s ln sz : Nat) : Prop := ln < 4 ∧ sz ≤ 24 ∧ uc.1 34 s = nI ln ∧ um.1 5 s = nI ln ∧ uc.1 35 s = nI sz ∧ um.1 4 s = nI sz ∧ ∀ i, i < sz → uc.2 36 (24 * s + i) = um.2 3 (24 * s + i)
theorem shR_iff {uc um : zS} : shR uc um ↔ ∀ s, s < 4 → (uc.1 34 s = -4 ∧ um.1 4 s = -1) ∨ ∃ ln sz, shT uc um s ln sz := Iff.rfl
theorem isSh (v : Int32) : f_X5_isSheet v = 0 ∨ ∃ s, s < 4 ∧ v = nI s ∧ f_X5_isSheet v = 1 := by
  rcases wi v (lo := 0) (hi := 3) (by omega) (by omega) with h | ⟨k, _, h2, h3, h4⟩
  · exact Or.inl h
  · exact Or.inr ⟨k, by omega, h3, h4⟩
theorem isSheet_eq (v : Int32) : f_X6_isSheet v = f_X5_isSheet v := in_within v 0 3
theorem lgle (x y : Int64) : lg_cmp x y ≤ 0 ↔ x ≤ y := by
  unfold lg_cmp
  by_cases c1 : x > y
  · rw [if_pos c1]
    refine ⟨fun h => absurd h (by decide), fun h => ?_⟩
    exfalso
    have c1 : y < x := c1
    rw [fa_lt64] at c1; rw [fa_le64] at h; omega
  · rw [if_neg c1]
    have hle : x ≤ y := by
      have c1 : ¬ y < x := c1
      rw [fa_lt64] at c1; rw [fa_le64]; omega
    refine ⟨fun _ => hle, fun _ => ?_⟩
    by_cases c2 : x = y
    · rw [if_pos c2]; decide
    · rw [if_neg c2]; decide
theorem hi_spec {uc : zS} {s sz : Nat} (h : uc.1 35 s = nI sz) (hs : s < 4) (hz : sz ≤ 24) (i n : Int32) : (f_X3_hasItems uc (nI s) i n = some 1 ∧ ∃ a c, i = nI a ∧ n = nI c ∧ a + c ≤ sz) ∨ (f_X3_hasItems uc (nI s) i n = some 0 ∧ ∀ a c, a + c ≤ sz → i = nI a → ¬ n = nI c) := by
  unfold f_X3_hasItems
  by_cases h1 : n < 0
  · right; rw [if_pos h1]; exact ⟨rfl, fun a c hac _ e => nI_pos (n := c) (by omega) (by rw [← e]; exact h1)⟩
  by_cases h2 : i < 0
  · right; rw [if_neg h1, if_pos h2]; exact ⟨rfl, fun a c hac e _ => nI_pos (n := a) (by omega) (by rw [← e]; exact h2)⟩
  obtain ⟨a, ha, rfl⟩ := nI_of h2
  obtain ⟨c, hc, rfl⟩ := nI_of h1
  rw [if_neg h1, if_neg h2, og_nI (by omega) (by omega), nI_clamp (by omega), h]
  by_cases h3 : sz < a
  · right
    rw [if_pos (nI_lt h3 ha)]
    exact ⟨rfl, fun a2 c2 hac e _ => by have := (nI_eq ha (by omega)).mp e; omega⟩
  rw [if_neg (nI_nlt (by omega) (by omega)), og_nI (by omega) (by omega), pk_sub (by omega)]
  by_cases h4 : sz - a < c
  · right
    rw [if_pos (nI_lt h4 hc)]
    exact ⟨rfl, fun a2 c2 hac e e2 => by have := (nI_eq ha (by omega)).mp e; have := (nI_eq hc (by omega)).mp e2; omega⟩
  · left
    rw [if_neg (nI_nlt (by omega) (by omega))]
    exact ⟨rfl, a, c, rfl, rfl, by omega⟩
theorem ag_spec {um : zS} {s ln sz : Nat} (h4 : um.1 4 s = nI sz) (h5 : um.1 5 s = nI ln) (hs : s < 4) (hz : sz ≤ 24) (lane i n : Int32) : (nI ln = lane ∧ f_X6_against um (nI s) lane i n = some 0 ∧ ∃ a c, i = nI a ∧ n = nI c ∧ a + c ≤ sz) ∨ (nI ln = lane ∧ f_X6_against um (nI s) lane i n = some (-13) ∧ ∀ a c, a + c ≤ sz → i = nI a → ¬ n = nI c) ∨ (¬ nI ln = lane ∧ f_X6_against um (nI s) lane i n = some (-12)) := by
  unfold f_X6_against
  rw [og_nI (by omega) (by omega), nI_clamp (by omega), h4, h5, if_pos (nI_pos' (by omega)), og_nI (by omega) (by omega)]
  by_cases hl : nI ln = lane
  · rw [if_pos hl]
    by_cases h1 : i < 0
    · rw [if_pos h1]
      exact Or.inr (Or.inl ⟨hl, rfl, fun a c hac e _ => nI_pos (n := a) (by omega) (by rw [← e]; exact h1)⟩)
    by_cases h2 : n < 0
    · rw [if_neg h1, if_pos h2]
      exact Or.inr (Or.inl ⟨hl, rfl, fun a c hac _ e => nI_pos (n := c) (by omega) (by rw [← e]; exact h2)⟩)
    obtain ⟨a, ha, rfl⟩ := nI_of h1
    obtain ⟨c, hc, rfl⟩ := nI_of h2
    rw [if_neg h1, if_neg h2, og_nI (by omega) (by omega), nI_l ha, nI_l hc, nI_l (by omega), lN_add]
    have e : lg_cmp (lN (a + c)) (lN sz) ≤ 0 ↔ a + c ≤ sz := by rw [lgle, pk_lLE (by omega) (by omega)]
    by_cases h3 : a + c ≤ sz
    · rw [if_pos (e.mpr h3)]
      exact Or.inl ⟨hl, rfl, a, c, rfl, rfl, h3⟩
    · rw [if_neg (fun q => h3 (e.mp q))]
      refine Or.inr (Or.inl ⟨hl, rfl, fun a2 c2 hac e1 e2 => ?_⟩)
      have := (nI_eq ha (by omega)).mp e1
      have := (nI_eq hc (by omega)).mp e2
      omega
  · rw [if_neg hl]
    exact Or.inr (Or.inr ⟨hl, rfl⟩)
theorem ref_eq {uc um : zS} (h : shR uc um) {s : Nat} (hs : s < 4) (lane i n : Int32) : ∃ r, f_X3_refused uc (nI s) lane i n = some r ∧ f_X6_against um (nI s) lane i n = some r ∧ ((¬ 0 ≤ r) ∨ (r = 0 ∧ ∃ ln sz a c, shT uc um s ln sz ∧ lane = nI ln ∧ i = nI a ∧ n = nI c ∧ a + c ≤ sz)) := by
  unfold f_X3_refused f_X3_isThere
  rw [og_nI (by omega) (by omega), nI_clamp (by omega)]
  rcases h s hs with ⟨h1, h2⟩ | ⟨ln, sz, t1, t2, t3, t4, t5, t6, t7⟩
  · rw [h1, if_pos rfl, ob_s, if_pos rfl]
    refine ⟨-11, rfl, ?_, Or.inl (by decide)⟩
    unfold f_X6_against
    rw [og_nI (by omega) (by omega), nI_clamp (by omega), h2, if_neg (show ¬ (0 : Int32) ≤ -1 by decide)]
  · rw [t3, if_neg (nI_n4 (by omega)), ob_s, if_neg (show ¬ (1 : Int32) = 0 by decide), og_nI (by omega) (by omega)]
    rcases ag_spec t6 t4 hs t2 lane i n with ⟨hl, g1, a, c, e1, e2, e3⟩ | ⟨hl, g1, g2⟩ | ⟨hl, g1⟩
    · rw [if_pos hl, g1]
      rcases hi_spec t5 hs t2 i n with ⟨g2, -⟩ | ⟨-, g3⟩
      · rw [g2, ob_s, if_neg (show ¬ (1 : Int32) = 0 by decide)]
        exact ⟨0, rfl, rfl, Or.inr ⟨rfl, ln, sz, a, c, ⟨t1, t2, t3, t4, t5, t6, t7⟩, hl.symm, e1, e2, e3⟩⟩
      · exact absurd e2 (g3 a c e3 e1)
    · rw [if_pos hl, g1]
      rcases hi_spec t5 hs t2 i n with ⟨-, a, c, e1, e2, e3⟩ | ⟨g3, -⟩
      · exact absurd e2 (g2 a c e3 e1)
      · rw [g3, ob_s, if_pos rfl]
        exact ⟨-13, rfl, rfl, Or.inl (by decide)⟩
    · rw [if_neg hl, g1]
      exact ⟨-12, rfl, rfl, Or.inl (by decide)⟩
theorem isLane_eq {s : Nat} (hs : s < 4) (v : Int32) : f_X6_isLane (nI s) v = f_X5_isLane v := by
  unfold f_X6_isLane
  rw [isSheet_eq, show f_X6_in v.toInt64 0 3 = f_X5_isLane v from in_within v 0 3]
  have h1 : ¬ f_X5_isSheet (nI s) = 0 := by
    have : ∀ s, s < 4 → ¬ f_X5_isSheet (nI s) = 0 := by decide
    exact this s hs
  rw [if_neg h1]
  rcases isSh v with h | ⟨_, _, _, h⟩
  · have h : f_X5_isLane v = 0 := h
    rw [h, if_pos rfl]
  · have h : f_X5_isLane v = 1 := h
    rw [h]; rfl
theorem isLane_no {v w : Int32} (h : f_X5_isSheet v = 0) : f_X6_isLane v w = 0 := by
  unfold f_X6_isLane
  rw [isSheet_eq, if_pos h]
theorem ok_drop {N : Nat} {uc um : zS} (h : RR uc um) (a0 : Int32) : op_drop N RR uc um a0 := by
  unfold op_drop f_X5_drop f_X6_drop
  rw [isSheet_eq]
  rcases isSh a0 with h0 | ⟨s, hs, rfl, h1⟩
  · rw [if_pos h0, if_pos h0]; exact ⟨_, _, _, rfl, rfl, h⟩
  have h1n : ¬ f_X5_isSheet (nI s) = 0 := by rw [h1]; decide
  rw [if_neg h1n, if_neg h1n]
  unfold f_X3_isThere f_X3_takeAway
  rw [og_nI (by omega) (by omega), og_nI (by omega) (by omega), nI_clamp (by omega)]
  rcases h.2.2.2 s hs with ⟨g1, g2⟩ | ⟨ln, sz, t1, t2, t3, t4, t5, t6, t7⟩
  · rw [g1, if_pos rfl, ob_s, if_pos rfl, g2, if_neg (show ¬ (0 : Int32) ≤ -1 by decide), og_nI (by omega) (by omega)]; exact ⟨_, _, _, rfl, rfl, h⟩
  rw [t3, if_neg (nI_n4 (by omega)), ob_s, if_neg (show ¬ (1 : Int32) = 0 by decide), t6, if_pos (nI_pos' (by omega)), ol, og_nI (by omega) (by omega), ob_s, og_nI (by omega) (by omega), og_nI (by omega) (by omega), ol]
  have r1 : (wI uc 34 s (-4)).1 35 s = nI sz := by rw [wI_ne (by omega)]; exact t5
  rw [r1]
  try rw [og_nI (by omega) (by omega)]
  refine ⟨_, _, _, rfl, rfl, ?_⟩
  refine RR_sh h (fun s2 hs2 => ?_) (fun c hc => wI_ne (by omega)) (fun c hc => wI_ne (by omega))
  by_cases e : s2 = s
  · subst e
    left
    rw [wI_at, wI_at, pk_us, pk_us]; exact ⟨rfl, rfl⟩
  · rw [wI_at, wI_at, pk_un e, pk_un e, wI_ne (show (35 : Nat) ≠ 34 by omega), wI_ne (show (5 : Nat) ≠ 4 by omega)]
    exact h.2.2.2 s2 hs2
theorem ok_item {N : Nat} {uc um : zS} (h : RR uc um) (a0 a1 a2 : Int32) (a3 : Int64) : op_item N RR uc um a0 a1 a2 a3 := by
  unfold op_item f_X5_item f_X6_item
  rcases isSh a0 with h0 | ⟨s, hs, rfl, h1⟩
  · rw [if_pos h0, if_pos (isLane_no h0)]; exact ⟨_, _, _, rfl, rfl, h⟩
  have h1n : ¬ f_X5_isSheet (nI s) = 0 := by rw [h1]; decide
  rw [if_neg h1n, isLane_eq hs]
  by_cases hl : f_X5_isLane a1 = 0
  · rw [if_pos hl, if_pos hl]; exact ⟨_, _, _, rfl, rfl, h⟩
  rw [if_neg hl, if_neg hl]
  obtain ⟨r, e1, e2, e3⟩ := ref_eq h.2.2.2 hs a1 a2 1
  rw [e1, e2, ob_s, ob_s]
  rcases e3 with e3 | ⟨rfl, ln, sz, a, c, ⟨t1, t2, t3, t4, t5, t6, t7⟩, rfl, rfl, ec, hac⟩
  · rw [if_neg e3, if_neg e3]; exact ⟨_, _, _, rfl, rfl, h⟩
  have ec : c = 1 := ((nI_eq (a := 1) (b := c) (by omega) (by omega)).mp ec).symm
  subst ec
  rw [if_pos (show (0 : Int32) ≤ 0 by decide), if_pos (show (0 : Int32) ≤ 0 by decide)]
  unfold f_X3_put
  rw [og_nI (by omega) (by omega), show nI s * 24 = nI (s * 24) from pk_mul s 24, nI_add, og_nI (by omega) (by omega), nI_clamp (by omega), nI_clamp (by omega), t3, ol, ob_s, show (24 : Int32) * nI s = nI (24 * s) from pk_mul 24 s, nI_add, og_nI (by omega) (by omega), nI_clamp (by omega), ol]
  refine ⟨_, _, _, rfl, rfl, ?_⟩
  refine RR_sh h (fun s2 hs2 => ?_) (fun c hc => rfl) (fun c hc => rfl)
  rcases h.2.2.2 s2 hs2 with g | ⟨ln2, sz2, w1, w2, w3, w4, w5, w6, w7⟩
  · exact Or.inl g
  · right
    refine ⟨ln2, sz2, w1, w2, w3, w4, w5, w6, fun i hi => ?_⟩
    rw [wL_2, wL_2, if_pos rfl, if_pos rfl]
    by_cases hi2 : 24 * s2 + i = 24 * s + a
    · rw [if_pos (by omega), if_pos hi2]; rfl
    · rw [if_neg (by omega), if_neg hi2]; exact w7 i hi
theorem ok_sheet {N : Nat} {uc um : zS} (hN : 300 ≤ N) (h : RR uc um) (a0 a1 a2 : Int32) : op_sheet N RR uc um a0 a1 a2 := by
  unfold op_sheet f_X5_sheet f_X6_sheet
  rcases isSh a0 with h0 | ⟨s, hs, rfl, h1⟩
  · rw [if_pos h0, if_pos (isLane_no h0)]; exact ⟨_, _, _, rfl, rfl, h⟩
  have h1n : ¬ f_X5_isSheet (nI s) = 0 := by rw [h1]; decide
  rw [if_neg h1n, isLane_eq hs]
  rcases isSh a1 with hl | ⟨ln, hln, rfl, hl⟩
  · have hl : f_X5_isLane a1 = 0 := hl
    rw [if_pos hl, if_pos hl]; exact ⟨_, _, _, rfl, rfl, h⟩
  have hl : ¬ f_X5_isLane (nI ln) = 0 := by rw [show f_X5_isLane (nI ln) = 1 from hl]; decide
  rw [if_neg hl, if_neg hl]
  by_cases g1 : ¬ a2 ≤ 24
  · rw [if_neg g1, if_neg g1]; exact ⟨_, _, _, rfl, rfl, h⟩
  have g1 : a2 ≤ 24 := Classical.byContradiction g1
  rw [if_pos g1, if_pos g1]
  by_cases g2 : ¬ 0 ≤ a2
  · rw [if_neg g2, if_neg g2]; exact ⟨_, _, _, rfl, rfl, h⟩
  have g2 : 0 ≤ a2 := Classical.byContradiction g2
  rw [if_pos g2, if_pos g2]
  obtain ⟨n, hn, rfl⟩ := nI_of2 (x := a2) (M := 24) (n := 24) (by decide) (fun q => absurd g2 (not_le_32.mpr q)) g1
  unfold f_X3_renew
  rw [og_nI (by omega) (by omega), ol, og_nI (by omega) (by omega), ol, og_nI (by omega) (by omega), ol, og_nI (by omega) (by omega), ol, nI_clamp (by omega)]
  have kC : ∀ (k i q : Nat) (w x : zS), i + k = n → k < q → (x.1 = w.1 ∧ ∀ c j, x.2 c j = if c = 36 ∧ 24 * s ≤ j ∧ j < 24 * s + i then 0 else w.2 c j) → ∃ v, f_X3_renew_L17 N (nI s) (nI n) q x (nI i) = some v ∧ v.1 = w.1 ∧ ∀ c j, v.2 c j = if c = 36 ∧ 24 * s ≤ j ∧ j < 24 * s + n then 0 else w.2 c j := by
    intro k
    induction k with
    | zero =>
      intro i q w x e1 e2 e3
      obtain ⟨q, rfl⟩ : ∃ z, q = z + 1 := ⟨q - 1, by omega⟩
      have : i = n := by omega
      subst this
      refine ⟨x, ?_, e3⟩
      show f_X3_renew_L17_B N _ _ _ _ _ = _
      unfold f_X3_renew_L17_B
      rw [if_pos (nI_le (Nat.le_refl _) (by omega))]
    | succ k ih =>
      intro i q w x e1 e2 e3
      obtain ⟨q, rfl⟩ : ∃ z, q = z + 1 := ⟨q - 1, by omega⟩
      show ∃ v, f_X3_renew_L17_B N _ _ _ _ _ = _ ∧ _
      unfold f_X3_renew_L17_B
      rw [if_neg (nI_ge (by omega) (by omega)), show nI s * 24 = nI (s * 24) from pk_mul s 24, nI_add, og_nI (by omega) (by omega), nI_clamp (by omega), ol, show nI i + 1 = nI (i + 1) from nI_1 i]
      refine ih (i + 1) q w _ (by omega) (by omega) ⟨e3.1, fun c j => ?_⟩
      rw [wL_2, e3.2]
      by_cases c1 : c = 36
      · subst c1
        by_cases c2 : j = s * 24 + i
        · rw [if_pos rfl, if_pos c2, if_pos (by omega)]
        · rw [if_pos rfl, if_neg c2]
          by_cases c3 : 24 * s ≤ j ∧ j < 24 * s + i
          · rw [if_pos ⟨rfl, c3⟩, if_pos (by omega)]
          · rw [if_neg (fun q => c3 q.2), if_neg (by omega)]
      · rw [if_neg c1, if_neg (fun q => c1 q.1), if_neg (fun q => c1 q.1)]
  have kM : ∀ (k i q : Nat) (w x : zS), i + k = 24 → k < q → (x.1 = w.1 ∧ ∀ c j, x.2 c j = if c = 3 ∧ 24 * s ≤ j ∧ j < 24 * s + i then 0 else w.2 c j) → ∃ v, f_X6_sheet_L40 N (nI s) (nI n) q x (nI i) = some v ∧ v.1 = w.1 ∧ ∀ c j, v.2 c j = if c = 3 ∧ 24 * s ≤ j ∧ j < 24 * s + 24 then 0 else w.2 c j := by
    intro k
    induction k with
    | zero =>
      intro i q w x e1 e2 e3
      obtain ⟨q, rfl⟩ : ∃ z, q = z + 1 := ⟨q - 1, by omega⟩
      have : i = 24 := by omega
      subst this
      refine ⟨x, ?_, e3⟩
      show f_X6_sheet_L40_B N _ _ _ _ _ = _
      unfold f_X6_sheet_L40_B
      rw [if_pos (show (24 : Int32) ≤ nI 24 by decide)]
    | succ k ih =>
      intro i q w x e1 e2 e3
      obtain ⟨q, rfl⟩ : ∃ z, q = z + 1 := ⟨q - 1, by omega⟩
      show ∃ v, f_X6_sheet_L40_B N _ _ _ _ _ = _ ∧ _
      unfold f_X6_sheet_L40_B
      rw [if_neg (show ¬ (24 : Int32) ≤ nI i from nI_ge (a := i) (b := 24) (by omega) (by omega)), show (24 : Int32) * nI s = nI (24 * s) from pk_mul 24 s, nI_add, og_nI (by omega) (by omega), nI_clamp (by omega), ol, show nI i + 1 = nI (i + 1) from nI_1 i]
      refine ih (i + 1) q w _ (by omega) (by omega) ⟨e3.1, fun c j => ?_⟩
      rw [wL_2, e3.2]
      by_cases c1 : c = 3
      · subst c1
        by_cases c2 : j = 24 * s + i
        · rw [if_pos rfl, if_pos c2, if_pos (by omega)]
        · rw [if_pos rfl, if_neg c2]
          by_cases c3 : 24 * s ≤ j ∧ j < 24 * s + i
          · rw [if_pos ⟨rfl, c3⟩, if_pos (by omega)]
          · rw [if_neg (fun q => c3 q.2), if_neg (by omega)]
      · rw [if_neg c1, if_neg (fun q => c1 q.1), if_neg (fun q => c1 q.1)]
  obtain ⟨vc, p1, p2, p3⟩ := kC n 0 N (wI (wI uc 34 s (nI ln)) 35 s (nI n)) _ (by omega) (by omega) ⟨rfl, fun c j => by rw [if_neg (by omega)]⟩
  obtain ⟨vm, q1, q2, q3⟩ := kM 24 0 N (wI (wI um 5 s (nI ln)) 4 s (nI n)) _ (by omega) (by omega) ⟨rfl, fun c j => by rw [if_neg (by omega)]⟩
  rw [show f_X3_renew_L17 N (nI s) (nI n) N (wI (wI uc 34 s (nI ln)) 35 s (nI n)) 0 = some vc from p1, show f_X6_sheet_L40 N (nI s) (nI n) N (wI (wI um 5 s (nI ln)) 4 s (nI n)) 0 = some vm from q1]
  refine ⟨_, _, _, rfl, rfl, ?_⟩
  refine RR_sh h (fun s2 hs2 => ?_) (fun c hc => by rw [p2, wI_ne (by omega), wI_ne (by omega)]) (fun c hc => by rw [q2, wI_ne (by omega), wI_ne (by omega)])
  have x34 : vc.1 34 = upd (uc.1 34) s (nI ln) := by rw [p2, wI_ne (by omega), wI_at]
  have x35 : vc.1 35 = upd (uc.1 35) s (nI n) := by rw [p2, wI_at, wI_ne (by omega)]
  have x5 : vm.1 5 = upd (um.1 5) s (nI ln) := by rw [q2, wI_ne (by omega), wI_at]
  have x4 : vm.1 4 = upd (um.1 4) s (nI n) := by rw [q2, wI_at, wI_ne (by omega)]
  rw [x34, x35, x5, x4]
  by_cases e : s2 = s
  · subst e
    right
    refine ⟨ln, n, hln, hn, by rw [pk_us], by rw [pk_us], by rw [pk_us], by rw [pk_us], fun i hi => ?_⟩
    rw [p3, q3, if_pos (by omega), if_pos (by omega)]
  · rw [pk_un e, pk_un e, pk_un e, pk_un e]
    rcases h.2.2.2 s2 hs2 with g | ⟨ln2, sz2, w1, w2, w3, w4, w5, w6, w7⟩
    · exact Or.inl g
    · right
      refine ⟨ln2, sz2, w1, w2, w3, w4, w5, w6, fun i hi => ?_⟩
      rw [p3, q3, if_neg (by omega), if_neg (by omega)]
      exact w7 i hi
