/-! a figure told; leads, at, seen, count -/
theorem tell_eq {N b : Nat} {u : zS} {f k g : Nat} (hN : 300 ≤ N) (hf : f < 5) (hk : k < 5) (hg : g < 8) : ∃ v, f_X1_tell N b u (nI f) (nI k) (nI g) = some v ∧ v.2 = u.2 ∧ (∀ c, c ≠ b + 2 → c ≠ b + 3 → c ≠ b + 4 → v.1 c = u.1 c) ∧ v.1 (b + 2) = upd (u.1 (b + 2)) f (nI k) ∧ v.1 (b + 3) = upd (u.1 (b + 3)) f (nI g) ∧ ∀ j, v.1 (b + 4) j = if 8 * f ≤ j ∧ j < 8 * f + 8 then f_X6_leadsBy (nI k) (nI g) (nI (j - 8 * f)) else u.1 (b + 4) j := by
  unfold f_X1_tell
  rw [og_nI (by omega) (by omega), ol, nI_clamp (by omega), og_nI (by omega) (by omega), ol]
  generalize hw : wI (wI u (b + 2) f (nI k)) (b + 3) f (nI g) = w
  have w2 : w.1 (b + 2) = upd (u.1 (b + 2)) f (nI k) := by rw [← hw, wI_ne (by omega), wI_at]
  have w3 : w.1 (b + 3) = upd (u.1 (b + 3)) f (nI g) := by rw [← hw, wI_at, wI_ne (by omega)]
  have wo : ∀ c, c ≠ b + 2 → c ≠ b + 3 → w.1 c = u.1 c := fun c c1 c2 => by rw [← hw, wI_ne c2, wI_ne c1]
  have wz : w.2 = u.2 := by rw [← hw]; rfl
  have key : ∀ (n i q : Nat) (x : zS), i + n = 8 → n < q → x.2 = u.2 → (∀ c, c ≠ b + 4 → x.1 c = w.1 c) → (∀ j, x.1 (b + 4) j = if 8 * f ≤ j ∧ j < 8 * f + i then f_X6_leadsBy (nI k) (nI g) (nI (j - 8 * f)) else u.1 (b + 4) j) → ∃ v, f_X1_tell_L17 N b (nI f) (nI k) (nI g) q x (nI i) = some v ∧ v.2 = u.2 ∧ (∀ c, c ≠ b + 4 → v.1 c = w.1 c) ∧ ∀ j, v.1 (b + 4) j = if 8 * f ≤ j ∧ j < 8 * f + 8 then f_X6_leadsBy (nI k) (nI g) (nI (j - 8 * f)) else u.1 (b + 4) j := by
    intro n
    induction n with
    | zero =>
      intro i q x e1 e2 e3 e4 e5
      obtain ⟨q, rfl⟩ : ∃ z, q = z + 1 := ⟨q - 1, by omega⟩
      have : i = 8 := by omega
      subst this
      refine ⟨x, ?_, e3, e4, e5⟩
      show f_X1_tell_L17_B N _ _ _ _ _ _ _ = _
      unfold f_X1_tell_L17_B
      rw [if_pos (show (8 : Int32) ≤ nI 8 by decide)]
    | succ n ih =>
      intro i q x e1 e2 e3 e4 e5
      obtain ⟨q, rfl⟩ : ∃ z, q = z + 1 := ⟨q - 1, by omega⟩
      show ∃ v, f_X1_tell_L17_B N _ _ _ _ _ _ _ = _ ∧ _
      unfold f_X1_tell_L17_B
      rw [if_neg (show ¬ (8 : Int32) ≤ nI i from nI_ge (a := i) (b := 8) (by omega) (by omega)), show nI f * 8 = nI (f * 8) from pk_mul f 8, nI_add, og_nI (by omega) (by omega), nI_clamp (by omega), ol, show nI i + 1 = nI (i + 1) from nI_1 i, lead_eq k hk g hg i (by omega)]
      refine ih (i + 1) q _ (by omega) (by omega) (by rw [wI_2]; exact e3) (fun c hc => by rw [wI_ne hc]; exact e4 c hc) (fun j => ?_)
      rw [wI_at]
      by_cases hj : j = f * 8 + i
      · subst hj; rw [pk_us, if_pos (by omega), show f * 8 + i - 8 * f = i by omega]
      · rw [pk_un hj, e5]
        by_cases hj2 : 8 * f ≤ j ∧ j < 8 * f + i
        · rw [if_pos hj2, if_pos (by omega)]
        · rw [if_neg hj2, if_neg (by omega)]
  obtain ⟨v, t1, t2, t3, t4⟩ := key 8 0 N w (by omega) (by omega) wz (fun _ _ => rfl) (fun j => by rw [if_neg (by omega), wo _ (by omega) (by omega)])
  rw [show f_X1_tell_L17 N b (nI f) (nI k) (nI g) N w 0 = some v from t1, ob_s]
  exact ⟨v, rfl, t2, fun c c1 c2 c3 => by rw [t3 c c3, wo c c1 c2], by rw [t3 _ (by omega), w2], by rw [t3 _ (by omega), w3], t4⟩
theorem ok_figure {N : Nat} {uc um : zS} (hN : 300 ≤ N) (h : RR uc um) (a0 a1' : Int32) : op_figure N RR uc um a0 a1' := by
  unfold op_figure f_X5_figure f_X6_figure
  rw [show f_X6_in a0.toInt64 0 4 = f_X5_within a0 0 4 from in_within a0 0 4, show f_X6_in a1'.toInt64 0 7 = f_X5_isPlace a1' from in_within a1' 0 7]
  rcases wi a0 (lo := 0) (hi := 4) (by omega) (by omega) with h0 | ⟨k, _, hk, rfl, h1⟩
  · rw [if_pos (show f_X5_within a0 0 4 = 0 from h0), if_pos (show f_X5_within a0 0 4 = 0 from h0)]; exact ⟨_, _, _, rfl, rfl, h⟩
  have h1n : ¬ f_X5_within (nI k) 0 4 = 0 := by rw [show f_X5_within (nI k) 0 4 = 1 from h1]; decide
  rw [if_neg h1n, if_neg h1n]
  rcases isPl a1' with h0 | ⟨g, hg, rfl, h2⟩
  · rw [if_pos h0, if_pos h0]; exact ⟨_, _, _, rfl, rfl, h⟩
  have h2n : ¬ f_X5_isPlace (nI g) = 0 := by rw [h2]; decide
  rw [if_neg h2n, if_neg h2n]
  obtain ⟨nA, nF, nT, nB, kn, sl, hW, hc⟩ := h.1
  obtain ⟨⟨a1, a2, a3, a4, a5⟩, ⟨b1, b2, b3, b4, b5⟩, c1, c2, c3, c4, c5⟩ := hW
  obtain ⟨⟨d1, d2, d3, d4, d5, d6, d7, d8⟩, e2, e3, e4, e5⟩ := hc
  rw [d2, a2]
  by_cases hf5 : nF = 5
  · subst hf5
    rw [if_neg (show ¬ nI 5 < (5 : Int32) by decide), if_pos (show nI 5 = (5 : Int32) by decide)]; exact ⟨_, _, _, rfl, rfl, h⟩
  rw [if_pos (show nI nF < 5 from nI_lt (a := nF) (b := 5) (by omega) (by omega)), if_neg (show ¬ nI nF = 5 from fun q => hf5 ((nI_eq (a := nF) (b := 5) (by omega) (by omega)).mp q))]
  unfold f_X1_addFigure f_X0_forget
  rw [ol, ol]
  have r7 : (wI uc (1 + 6) 4 0).1 1 7 = nI nF := by rw [wI_ne (by omega), d2, a2]
  obtain ⟨v, t1, t2, t3, t4, t5, t6⟩ := tell_eq (N := N) (b := 1) (u := wI uc (1 + 6) 4 0) (f := nF) (k := k) (g := g) hN (by omega) (by omega) hg
  have v7 : v.1 1 7 = nI nF := by rw [t3 1 (by omega) (by omega) (by omega)]; exact r7
  have e13 : (13 : Int32) + nI nF = nI (13 + nF) := nI_add 13 nF
  have e18 : (18 : Int32) + nI nF = nI (18 + nF) := nI_add 18 nF
  have m1 : (wI um 1 (13 + nF) (nI k)).1 1 1 = nI nF := by rw [wI_at, pk_un (by omega), a2]
  have m2 : (wI (wI um 1 (13 + nF) (nI k)) 1 (18 + nF) (nI g)).1 1 1 = nI nF := by rw [wI_at, pk_un (by omega)]; exact m1
  rw [r7, if_pos (show nI nF < 5 from nI_lt (a := nF) (b := 5) (by omega) (by omega)), t1, ob_s, ol, v7, ob_s, e13, og_nI (by omega) (by omega), nI_clamp (by omega), ol, m1, e18, og_nI (by omega) (by omega), nI_clamp (by omega), ol, m2, ol, ol]
  have r9 : (wI (wI (wI (wI um 1 (13 + nF) (nI k)) 1 (18 + nF) (nI g)) 1 1 (nI nF + 1)) 1 39 0).1 1 1 = nI nF + 1 := by rw [wI_at, wI_at, pk_un (by omega), pk_us]
  have r10 : (wI v 1 7 (nI nF + 1)).1 1 7 = nI nF + 1 := by rw [wI_at, pk_us]
  rw [r9, r10]
  refine ⟨_, _, _, rfl, rfl, ?_⟩
  show RR (wI v 1 7 (nI nF + 1)) (wI (wI (wI (wI um 1 (13 + nF) (nI k)) 1 (18 + nF) (nI g)) 1 1 (nI nF + 1)) 1 39 0)
  have q2 : (wI v 1 7 (nI nF + 1)).1 (1 + 2) = upd (uc.1 (1 + 2)) nF (nI k) := by rw [wI_ne (by omega), t4, wI_ne (by omega)]
  have q3 : (wI v 1 7 (nI nF + 1)).1 (1 + 3) = upd (uc.1 (1 + 3)) nF (nI g) := by rw [wI_ne (by omega), t5, wI_ne (by omega)]
  have q4 : ∀ j, (wI v 1 7 (nI nF + 1)).1 (1 + 4) j = if 8 * nF ≤ j ∧ j < 8 * nF + 8 then f_X6_leadsBy (nI k) (nI g) (nI (j - 8 * nF)) else uc.1 (1 + 4) j := fun j => by rw [wI_ne (by omega), t6, wI_ne (by omega)]
  have s : ∀ c, c ≠ 1 → c ≠ 3 → c ≠ 4 → c ≠ 5 → c ≠ 7 → (wI v 1 7 (nI nF + 1)).1 c = uc.1 c := fun c g1 g2 g3 g4 g5 => by rw [wI_ne g1, t3 c (by omega) (by omega) (by omega), wI_ne (by omega)]
  have s1 : ∀ j, j ≠ 7 → (wI v 1 7 (nI nF + 1)).1 1 j = uc.1 1 j := fun j hj => by rw [wI_at, pk_un hj, t3 1 (by omega) (by omega) (by omega), wI_ne (by omega)]
  have r : ∀ j, j ≠ 39 → j ≠ 1 → j ≠ 13 + nF → j ≠ 18 + nF → (wI (wI (wI (wI um 1 (13 + nF) (nI k)) 1 (18 + nF) (nI g)) 1 1 (nI nF + 1)) 1 39 0).1 1 j = um.1 1 j := fun j g1 g2 g3 g4 => by rw [wI_at, wI_at, wI_at, wI_at, pk_un g1, pk_un g2, pk_un g4, pk_un g3]
  have rk : (wI (wI (wI (wI um 1 (13 + nF) (nI k)) 1 (18 + nF) (nI g)) 1 1 (nI nF + 1)) 1 39 0).1 1 (13 + nF) = nI k := by rw [wI_at, wI_at, wI_at, wI_at, pk_un (by omega), pk_un (by omega), pk_un (by omega), pk_us]
  have rg : (wI (wI (wI (wI um 1 (13 + nF) (nI k)) 1 (18 + nF) (nI g)) 1 1 (nI nF + 1)) 1 39 0).1 1 (18 + nF) = nI g := by rw [wI_at, wI_at, wI_at, pk_un (by omega), pk_un (by omega), pk_us]
  have r39 : (wI (wI (wI (wI um 1 (13 + nF) (nI k)) 1 (18 + nF) (nI g)) 1 1 (nI nF + 1)) 1 39 0).1 1 39 = 0 := by rw [wI_at, pk_us]
  refine RR_now h ⟨nA, nF + 1, nT, nB, 0, sl, ?_, ?_⟩ ⟨s 0 (by omega) (by omega) (by omega) (by omega) (by omega), fun c g1 g2 => s c (by omega) (by omega) (by omega) (by omega) (by omega), s 31 (by omega) (by omega) (by omega) (by omega) (by omega), s 32 (by omega) (by omega) (by omega) (by omega) (by omega), s 34 (by omega) (by omega) (by omega) (by omega) (by omega), s 35 (by omega) (by omega) (by omega) (by omega) (by omega), by rw [wI_2, t2, wI_2]⟩ ((((FM_wI (by omega)).trans (FM_wI (by omega))).trans (FM_wI (by omega))).trans (FM_wI (by omega)))
  · refine ⟨⟨by rw [r _ (by omega) (by omega) (by omega) (by omega)]; exact a1, by rw [r9]; exact nI_1 nF, by rw [r _ (by omega) (by omega) (by omega) (by omega)]; exact a3, by rw [r _ (by omega) (by omega) (by omega) (by omega)]; exact a4, by rw [r39]; rfl⟩, ⟨b1, by omega, b3, b4, by omega⟩, by rw [r _ (by omega) (by omega) (by omega) (by omega)]; exact c1, fun i hi => by rw [r _ (by omega) (by omega) (by omega) (by omega)]; exact c2 i hi, fun i hi => ?_, fun i hi => ?_, fun j hj => absurd hj (by omega)⟩
    · by_cases hin : i = nF
      · subst hin
        rw [rk, rg]; exact ⟨⟨k, by omega, rfl⟩, g, hg, rfl⟩
      · rw [r _ (by omega) (by omega) (by omega) (by omega), r _ (by omega) (by omega) (by omega) (by omega)]; exact c3 i (by omega)
    · rw [r _ (by omega) (by omega) (by omega) (by omega)]
      obtain ⟨z, hz1, hz2⟩ := c4 i hi
      exact ⟨z, by omega, hz2⟩
  · refine ⟨⟨by rw [s1 _ (by omega), r _ (by omega) (by omega) (by omega) (by omega)]; exact d1, by rw [r9, r10], by rw [s1 _ (by omega), r _ (by omega) (by omega) (by omega) (by omega)]; exact d3, by rw [s1 _ (by omega), r _ (by omega) (by omega) (by omega) (by omega)]; exact d4, by rw [s1 _ (by omega), r _ (by omega) (by omega) (by omega) (by omega)]; exact d5, ?_, ?_, d8⟩, fun i hi => by rw [r _ (by omega) (by omega) (by omega) (by omega), s _ (by omega) (by omega) (by omega) (by omega) (by omega)]; exact e2 i hi, fun i hi => ?_, fun i hi => by rw [r _ (by omega) (by omega) (by omega) (by omega), s _ (by omega) (by omega) (by omega) (by omega) (by omega)]; exact e4 i hi, fun j hj => absurd hj (by omega)⟩
    · rw [r39, wI_ne (by omega), t3 _ (by omega) (by omega) (by omega), wI_at, pk_us]
    · rw [wI_ne (by omega), t3 _ (by omega) (by omega) (by omega), wI_at, pk_un (by omega)]; exact d7
    · rw [q2, q3]
      by_cases hin : i = nF
      · subst hin
        rw [rk, rg, pk_us, pk_us]
        refine ⟨rfl, rfl, fun p hp => ?_⟩
        rw [q4, if_pos (by omega), show 8 * i + p - 8 * i = p by omega]
      · rw [pk_un hin, pk_un hin, r (13 + i) (by omega) (by omega) (by omega) (by omega), r (18 + i) (by omega) (by omega) (by omega) (by omega)]
        obtain ⟨x1, x2, x3⟩ := e3 i (by omega)
        refine ⟨x1, x2, fun p hp => ?_⟩
        rw [q4, if_neg (by omega)]; exact x3 p hp
theorem ok_leads {N : Nat} {uc um : zS} (h : RR uc um) (a0 a1' : Int32) : op_leads N RR uc um a0 a1' := by
  unfold op_leads f_X5_leads f_X6_leads
  obtain ⟨nA, nF, nT, nB, kn, sl, hW, hc⟩ := h.1
  have a2 := hW.1.2.1
  have b2 := hW.2.1.2.1
  have d2 := hc.1.2.1
  rw [isFigure_eq a2 (d2.trans a2) (by omega), isPlace_eq]
  rcases hasF (d2.trans a2) (by omega) a0 with h0 | ⟨f, hf, rfl, h1⟩
  · rw [if_pos h0, if_pos h0]; exact ⟨_, rfl, rfl, h⟩
  have h1n : ¬ f_X1_hasFigure 1 uc (nI f) = 0 := by rw [h1]; decide
  rw [if_neg h1n, if_neg h1n]
  rcases isPl a1' with h0 | ⟨p, hp, rfl, h2⟩
  · rw [if_pos h0, if_pos h0]; exact ⟨_, rfl, rfl, h⟩
  have h2n : ¬ f_X5_isPlace (nI p) = 0 := by rw [h2]; decide
  rw [if_neg h2n, if_neg h2n, ledBy_eq hc.t hf b2 hp, leadsOf_eq (by omega)]
  exact ⟨_, rfl, rfl, h⟩
theorem ok_at {N : Nat} {uc um : zS} (h : RR uc um) (a0 : Int32) : op_at N RR uc um a0 := by
  unfold op_at f_X5_at f_X6_at
  obtain ⟨nA, nF, nT, nB, kn, sl, hW, hc⟩ := h.1
  have a1 := hW.1.1
  have b1 := hW.2.1.1
  have d1 := hc.1.1
  rw [isAngel_eq a1 (d1.trans a1) (by omega)]
  rcases hasA (d1.trans a1) (by omega) a0 with h0 | ⟨i, hi, rfl, h1⟩
  · rw [if_pos h0, if_pos h0]; exact ⟨_, rfl, rfl, h⟩
  have h1n : ¬ f_X1_hasAngel 1 uc (nI i) = 0 := by rw [h1]; decide
  have e := hc.2.1 i hi
  rw [if_neg h1n, if_neg h1n, show (5 : Int32) + nI i = nI (5 + i) from nI_add 5 i, og_nI (by omega) (by omega), og_nI (by omega) (by omega), nI_clamp (by omega), nI_clamp (by omega)]
  exact ⟨_, rfl, by rw [← e], h⟩
/-- how many are seen: the reference's turns one by one -/
def dS (v0 v1 v3 : Int32) : Int32 :=
  let p := ((v1 + v3) + 8) - ((v1 + v3) + 8) / 8 * 8
  let s1 : Int32 := if v3 ≤ 0 then 1 else 7
  let nx := (p + s1) - (p + s1) / 8 * 8
  let hid : Int32 := if 1 < v3 then (if f_X6_has v0 nx = 0 then 0 else 1) else (if (-1) ≤ v3 then 0 else (if f_X6_has v0 nx = 0 then 0 else 1))
  if f_X6_has v0 p = 0 then 0 else (if hid = 0 then 1 else 0)
theorem seenOf_B (N : Nat) (v0 v1 : Int32) (rec : Int32 → Int32 → Option Int32) (v2 v3 : Int32) : f_X6_seenOf_L5_B N v0 v1 rec v2 v3 = if 3 < v3 then some v2 else rec (v2 + dS v0 v1 v3) (v3 + 1) := by
  unfold f_X6_seenOf_L5_B f_X6_seenOf_J33 f_X6_seenOf_J49 f_X6_seenOf_J62 f_X6_seenOf_J63 dS
  by_cases c0 : 3 < v3
  · rw [if_pos c0, if_pos c0]
  rw [if_neg c0, if_neg c0, ol]
  dsimp only
  generalize ((v1 + v3) + 8) - ((v1 + v3) + 8) / 8 * 8 = p
  by_cases c1 : v3 ≤ 0 <;> (try simp only [c1, if_true, if_false])
  all_goals (by_cases c2 : 1 < v3 <;> (try simp only [c2, if_true, if_false]))
  all_goals (by_cases c3 : (-1) ≤ v3 <;> (try simp only [c3, if_true, if_false]))
  all_goals (repeat' split)
  all_goals first | rfl | contradiction | (simp_all; done) | skip
theorem seenOf_eq {N : Nat} (hN : 300 ≤ N) {m v : Nat} (hm : m < 256) (hv : v < 8) : f_X6_seenOf N (nI m) (nI v) = some (f_X5_seenFrom (nI m) (nI v)) := by
  obtain ⟨q, rfl⟩ : ∃ q, N = q + 9 := ⟨N - 9, by omega⟩
  have st : ∀ (M k : Nat) (v0 v1 a i j : Int32), ¬ (3 : Int32) < i → i + 1 = j → f_X6_seenOf_L5 M v0 v1 (k + 1) a i = f_X6_seenOf_L5 M v0 v1 k (a + dS v0 v1 i) j := by
    intro M k v0 v1 a i j h1 h2
    show f_X6_seenOf_L5_B M v0 v1 _ _ _ = _
    rw [seenOf_B, if_neg h1, h2]
  unfold f_X6_seenOf
  rw [st _ (q + 8) _ _ _ (-3) (-2) (by decide) (by decide), st _ (q + 7) _ _ _ (-2) (-1) (by decide) (by decide), st _ (q + 6) _ _ _ (-1) 0 (by decide) (by decide), st _ (q + 5) _ _ _ 0 1 (by decide) (by decide), st _ (q + 4) _ _ _ 1 2 (by decide) (by decide), st _ (q + 3) _ _ _ 2 3 (by decide) (by decide), st _ (q + 2) _ _ _ 3 4 (by decide) (by decide)]
  have fin : ∀ (M : Nat) (v0 v1 a : Int32), f_X6_seenOf_L5 M v0 v1 (q + 2) a 4 = some a := by
    intro M v0 v1 a
    show f_X6_seenOf_L5_B M v0 v1 _ _ _ = _
    rw [seenOf_B, if_pos (show (3 : Int32) < 4 by decide)]
  rw [fin, ob_s]
  have d : ∀ m, m < 256 → ∀ v, v < 8 → (((((((0 + dS (nI m) (nI v) (-3)) + dS (nI m) (nI v) (-2)) + dS (nI m) (nI v) (-1)) + dS (nI m) (nI v) 0) + dS (nI m) (nI v) 1) + dS (nI m) (nI v) 2) + dS (nI m) (nI v) 3) = f_X5_seenFrom (nI m) (nI v) := by decide +kernel
  rw [d m hm v hv]
theorem ok_seen {N : Nat} {uc um : zS} (hN : 300 ≤ N) (h : RR uc um) (a0 : Int32) : op_seen N RR uc um a0 := by
  unfold op_seen f_X5_seen f_X6_seen
  rw [isPlace_eq]
  rcases isPl a0 with h0 | ⟨p, hp, rfl, h1⟩
  · rw [if_pos h0, if_pos h0]; exact ⟨_, rfl, rfl, h⟩
  have h1n : ¬ f_X5_isPlace (nI p) = 0 := by rw [h1]; decide
  obtain ⟨nA, nF, nT, nB, kn, sl, hG⟩ := h.1
  have hG : RG uc um nA nF nT nB kn sl := hG
  obtain ⟨s1, s2⟩ := RG_stand hN hG
  obtain ⟨m, hm, em⟩ := stF_lt hG.1.2.2.2.1
  rw [if_neg h1n, if_neg h1n, s1, s2, ob_s, ob_s, em, seenOf_eq hN hm hp]
  exact ⟨_, rfl, rfl, h⟩
