theorem pR_next {N : Nat} {uc um u w : zS} {n s a f t : Nat} (hN : 300 ≤ N) (hn : n ≤ 60) (hT : ∀ i, i < n → uc.1 32 i = um.1 2 i) (h : pR uc um n u w s a f t) : f_X4_next N u = some (xs (um.1 2) n s, wI u 31 2 (nI (s2 (um.1 2) n s))) ∧ f_X6_peek N w = some (xs (um.1 2) n s, wI w 0 8 (nI (s2 (um.1 2) n s))) := by
  obtain ⟨hs, ⟨c1, c2, ⟨c3, c4, c5, c6⟩, c7⟩, ⟨m1, m2, ⟨m3, m4, m5⟩, m6, m7⟩, x1⟩ := h
  exact ⟨next_eq (by omega) c3 c4 (fun i hi => by rw [c2 32 (by omega) (by omega)]; exact hT i hi) hs hn, peek_eq (by omega) m4 m5 (fun i hi => by rw [m2 2 (by omega) (by omega)]) hs hn⟩
theorem pR_takes {N : Nat} {uc um u w : zS} {n s a f t : Nat} (hN : 300 ≤ N) (hn : n ≤ 60) (hT : ∀ i, i < n → uc.1 32 i = um.1 2 i) (h : pR uc um n u w s a f t) (c : Int32) : f_X4_takes N u c = (if xs (um.1 2) n s = c then some (1, wI u 31 2 (nI (s2 (um.1 2) n s + 1))) else some (0, wI u 31 2 (nI (s2 (um.1 2) n s)))) ∧ f_X6_takes N w c = (if xs (um.1 2) n s = c then some (1, wI w 0 8 (nI (s2 (um.1 2) n s + 1))) else some (0, wI w 0 8 (nI (s2 (um.1 2) n s)))) := by
  obtain ⟨e1, e2⟩ := pR_next hN hn hT h
  have r1 : (wI u 31 2 (nI (s2 (um.1 2) n s))).1 31 2 = nI (s2 (um.1 2) n s) := by rw [wI_at, pk_us]
  have r2 : (wI w 0 8 (nI (s2 (um.1 2) n s))).1 0 8 = nI (s2 (um.1 2) n s) := by rw [wI_at, pk_us]
  unfold f_X4_takes f_X6_takes
  rw [e1, e2, ob_s, ob_s, ol, ol, r1, r2, show nI (s2 (um.1 2) n s) + 1 = nI (s2 (um.1 2) n s + 1) from nI_1 _, wI_wI, wI_wI]
  exact ⟨rfl, rfl⟩
theorem places_read {N : Nat} {uc um : zS} {n : Nat} (hN : 300 ≤ N) (hn : n ≤ 60) (hT : ∀ i, i < n → uc.1 32 i = um.1 2 i) : ∀ (k p q q2 : Nat) (u w : zS) (s a : Nat), p + k = 8 → a ≤ p → k < q → k < q2 → pR uc um n u w s a 0 0 → (∃ u' w' s' a', f_X4_readPlaces_L2 N q u (nI p) = some (.inr u') ∧ f_X6_takesPlaces_L2 N q2 w (nI p) = some (.inr w') ∧ pR uc um n u' w' s' a' 0 0) ∨ (∃ u' w' s' a', f_X4_readPlaces_L2 N q u (nI p) = some (.inl (0, u')) ∧ f_X6_takesPlaces_L2 N q2 w (nI p) = some (.inl (0, w')) ∧ pR uc um n u' w' s' a' 0 0) := by
  intro k
  induction k with
  | zero =>
    intro p q q2 u w s a h1 h2 h3 h4 h
    obtain ⟨q, rfl⟩ : ∃ z, q = z + 1 := ⟨q - 1, by omega⟩
    obtain ⟨q2, rfl⟩ : ∃ z, q2 = z + 1 := ⟨q2 - 1, by omega⟩
    have : p = 8 := by omega
    subst this
    refine Or.inl ⟨u, w, s, a, ?_, ?_, h⟩
    · show f_X4_readPlaces_L2_B N _ _ _ = _
      unfold f_X4_readPlaces_L2_B
      rw [if_pos (show (8 : Int32) ≤ nI 8 by decide)]
    · show f_X6_takesPlaces_L2_B N _ _ _ = _
      unfold f_X6_takesPlaces_L2_B
      rw [if_pos (show (8 : Int32) ≤ nI 8 by decide)]
  | succ k ih =>
    intro p q q2 u w s a h1 h2 h3 h4 h
    obtain ⟨q, rfl⟩ : ∃ z, q = z + 1 := ⟨q - 1, by omega⟩
    obtain ⟨q2, rfl⟩ : ∃ z, q2 = z + 1 := ⟨q2 - 1, by omega⟩
    have n8 : ¬ (8 : Int32) ≤ nI p := nI_ge (a := p) (b := 8) (by omega) (by omega)
    obtain ⟨o1, o2, o3, o4, o5⟩ := s2_ok (T := um.1 2) h.1
    have hsp := pR_spot h o2
    obtain ⟨e1, e2⟩ := pR_next hN hn hT h
    have tC := (pR_takes hN hn hT h 42).1
    have tC2 := (pR_takes hN hn hT hsp 46).1
    rw [o3, o4, wI_wI, wI_wI] at tC2
    have r2 : (wI w 0 8 (nI (s2 (um.1 2) n s))).1 0 8 = nI (s2 (um.1 2) n s) := by rw [wI_at, pk_us]
    have eC : f_X4_readPlaces_L2 N (q + 1) u (nI p) = f_X4_readPlaces_L2_B N (f_X4_readPlaces_L2 N q) u (nI p) := rfl
    have eM : f_X6_takesPlaces_L2 N (q2 + 1) w (nI p) = f_X6_takesPlaces_L2_B N (f_X6_takesPlaces_L2 N q2) w (nI p) := rfl
    rw [eC, eM]
    unfold f_X4_readPlaces_L2_B f_X6_takesPlaces_L2_B f_X6_takesPlaces_J27
    rw [if_neg n8, if_neg n8, tC, e2, ob_s, ol, r2, show nI (s2 (um.1 2) n s) + 1 = nI (s2 (um.1 2) n s + 1) from nI_1 _, wI_wI, show nI p + 1 = nI (p + 1) from nI_1 p]
    generalize hx : xs (um.1 2) n s = x at *
    by_cases x42 : x = 42
    · have hlt := o5 (by rw [x42]; decide)
      have hsp2 := pR_spot h (show s2 (um.1 2) n s + 1 ≤ n by omega)
      obtain ⟨r, u', z1, z2⟩ := pR_angel (p := p) hsp2 (by omega) (by omega)
      have w40 : (wI w 0 8 (nI (s2 (um.1 2) n s + 1))).1 1 240 = nI a := hsp2.2.2.1.2.2.2.2.1
      have w41 : (wI (wI w 0 8 (nI (s2 (um.1 2) n s + 1))) 1 (245 + a) (nI p)).1 1 240 = nI a := by rw [wI_at, pk_un (by omega)]; exact w40
      rw [if_pos x42, ob_s, if_neg (show ¬ (1 : Int32) = 0 by decide), z1, ob_s, if_neg (show ¬ x = 46 by rw [x42]; decide), if_pos x42, if_pos x42, w40, show (245 : Int32) + nI a = nI (245 + a) from nI_add 245 a, og_nI (by omega) (by omega), nI_clamp (by omega), ol, ol, w41, show nI a + 1 = nI (a + 1) from nI_1 a]
      exact ih (p + 1) q q2 _ _ _ (a + 1) (by omega) (by omega) (by omega) (by omega) z2
    · rw [if_neg x42, ob_s, if_pos rfl, tC2]
      by_cases x46 : x = 46
      · have hlt := o5 (by rw [x46]; decide)
        have hsp2 := pR_spot h (show s2 (um.1 2) n s + 1 ≤ n by omega)
        rw [if_pos x46, ob_s, if_neg (show ¬ (1 : Int32) = 0 by decide), if_pos x46, if_neg x42]
        exact ih (p + 1) q q2 _ _ _ a (by omega) (by omega) (by omega) (by omega) hsp2
      · rw [if_neg x46, ob_s, if_pos rfl, if_neg x46, if_neg x42]
        exact Or.inr ⟨_, _, _, _, rfl, rfl, hsp⟩
theorem kinds (x : Int32) : (f_X4_kindOf x = -4 ∧ ¬ 0 ≤ f_X6_kindOf x) ∨ ∃ k, k < 5 ∧ f_X4_kindOf x = nI k ∧ f_X6_kindOf x = nI k ∧ ¬ x = 0 := by
  unfold f_X4_kindOf f_X6_kindOf
  by_cases h1 : x = 99
  · subst h1; exact Or.inr ⟨4, by omega, by decide, by decide, by decide⟩
  by_cases h2 : x = 101
  · subst h2; exact Or.inr ⟨1, by omega, by decide, by decide, by decide⟩
  by_cases h3 : x = 104
  · subst h3; exact Or.inr ⟨3, by omega, by decide, by decide, by decide⟩
  by_cases h4 : x = 109
  · subst h4; exact Or.inr ⟨2, by omega, by decide, by decide, by decide⟩
  by_cases h5 : x = 114
  · subst h5; exact Or.inr ⟨0, by omega, by decide, by decide, by decide⟩
  rw [if_neg h1, if_neg h2, if_neg h3, if_neg h4, if_neg h5, if_neg h5, if_neg h2, if_neg h4, if_neg h3, if_neg h1]
  exact Or.inl ⟨rfl, by decide⟩
theorem dig (x : Int32) {m : Nat} (hm : m < 2 ^ 30) : (((x - 48) < 0 ∨ ¬ (x - 48) < nI m) ∧ f_X6_in (x - 48).toInt64 0 (nI m - 1).toInt64 = 0) ∨ ∃ e, e < m ∧ x - 48 = nI e ∧ ¬ (x - 48) < 0 ∧ (x - 48) < nI m ∧ ¬ f_X6_in (x - 48).toInt64 0 (nI m - 1).toInt64 = 0 ∧ ¬ x = 0 := by
  rw [in_below hm]
  by_cases h1 : x - 48 < 0
  · rw [if_pos h1]; exact Or.inl ⟨Or.inl h1, rfl⟩
  · rw [if_neg h1]
    obtain ⟨e, he, ee⟩ := nI_of h1
    by_cases h2 : nI m ≤ x - 48
    · rw [if_pos h2]; exact Or.inl ⟨Or.inr (fun q => (fa_of_lt q).2.1 h2), rfl⟩
    · rw [if_neg h2]
      have h3 : x - 48 < nI m := fa_of_nle h2
      refine Or.inr ⟨e, ?_, ee, h1, h3, by decide, fun q => h1 (by rw [q]; decide)⟩
      rw [ee, nI_ltI he (by omega)] at h3
      exact h3
theorem digit_read {N : Nat} {uc um u w : zS} {n s a f t m : Nat} (hN : 300 ≤ N) (hn : n ≤ 60) (hT : ∀ i, i < n → uc.1 32 i = um.1 2 i) (hm : m < 2 ^ 30) (h : pR uc um n u w s a f t) : (f_X4_takeDigit N u (nI m) = some (-4, wI u 31 2 (nI (s2 (um.1 2) n s))) ∧ f_X6_in (xs (um.1 2) n s - 48).toInt64 0 (nI m - 1).toInt64 = 0) ∨ ∃ e, e < m ∧ xs (um.1 2) n s - 48 = nI e ∧ f_X4_takeDigit N u (nI m) = some (nI e, wI u 31 2 (nI (s2 (um.1 2) n s + 1))) ∧ ¬ f_X6_in (xs (um.1 2) n s - 48).toInt64 0 (nI m - 1).toInt64 = 0 ∧ s2 (um.1 2) n s < n := by
  obtain ⟨o1, o2, o3, o4, o5⟩ := s2_ok (T := um.1 2) h.1
  obtain ⟨e1, -⟩ := pR_next hN hn hT h
  have r1 : (wI u 31 2 (nI (s2 (um.1 2) n s))).1 31 2 = nI (s2 (um.1 2) n s) := by rw [wI_at, pk_us]
  unfold f_X4_takeDigit
  rw [e1, ob_s, ol, r1, show nI (s2 (um.1 2) n s) + 1 = nI (s2 (um.1 2) n s + 1) from nI_1 _, wI_wI]
  rcases dig (xs (um.1 2) n s) hm with ⟨g1, g2⟩ | ⟨e, g1, g2, g3, g4, g5, g6⟩
  · left
    refine ⟨?_, g2⟩
    by_cases q : xs (um.1 2) n s - 48 < 0
    · rw [if_pos q]
    · rw [if_neg q, if_neg (g1.resolve_left q)]
  · right
    refine ⟨e, g1, g2, ?_, g5, o5 g6⟩
    rw [if_neg g3, if_pos g4, g2]
theorem fig_read {N : Nat} {uc um u w : zS} {n s a f : Nat} (hN : 300 ≤ N) (hn : n ≤ 60) (hT : ∀ i, i < n → uc.1 32 i = um.1 2 i) (h : pR uc um n u w s a f 0) (hf : f < 5) : (∃ u' w' s', f_X4_readFigure N u = some (1, u') ∧ f_X6_takesFigure N w = some (1, w') ∧ pR uc um n u' w' s' a (f + 1) 0) ∨ (∃ u' w' s', f_X4_readFigure N u = some (0, u') ∧ f_X6_takesFigure N w = some (0, w') ∧ pR uc um n u' w' s' a f 0) := by
  obtain ⟨o1, o2, o3, o4, o5⟩ := s2_ok (T := um.1 2) h.1
  have hsp := pR_spot h o2
  obtain ⟨e1, e2⟩ := pR_next hN hn hT h
  have r1 : (wI u 31 2 (nI (s2 (um.1 2) n s))).1 31 2 = nI (s2 (um.1 2) n s) := by rw [wI_at, pk_us]
  have r2 : (wI w 0 8 (nI (s2 (um.1 2) n s))).1 0 8 = nI (s2 (um.1 2) n s) := by rw [wI_at, pk_us]
  unfold f_X4_readFigure f_X6_takesFigure
  rw [e1, e2, ob_s, ob_s, ol, ol, ol, ol, r1, r2, show nI (s2 (um.1 2) n s) + 1 = nI (s2 (um.1 2) n s + 1) from nI_1 _, wI_wI, wI_wI]
  rcases kinds (xs (um.1 2) n s) with ⟨k1, k2⟩ | ⟨k, hk, k1, k2, k3⟩
  · rw [if_pos k1, if_neg k2]
    exact Or.inr ⟨_, _, _, rfl, rfl, hsp⟩
  have hlt := o5 k3
  have h4 := pR_spot h (show s2 (um.1 2) n s + 1 ≤ n by omega)
  rw [k1, k2, if_neg (nI_n4 (by omega)), if_pos (show (0 : Int32) ≤ nI k from nI_le (a := 0) (by omega) (by omega))]
  obtain ⟨-, e4⟩ := pR_next hN hn hT h4
  rw [e4, ob_s]
  generalize hz : s2 (um.1 2) n (s2 (um.1 2) n s + 1) = z at *
  have hz2 := (s2_ok (T := um.1 2) h4.1).2.1
  rw [hz] at hz2
  have r3 : (wI (wI w 0 8 (nI (s2 (um.1 2) n s + 1))) 0 8 (nI z)).1 0 8 = nI z := by rw [wI_at, pk_us]
  rw [ol, ol, r3, show nI z + 1 = nI (z + 1) from nI_1 _, wI_wI (wI w 0 8 (nI (s2 (um.1 2) n s + 1)))]
  rcases digit_read (m := 8) hN hn hT (by omega) h4 with ⟨d1, d2⟩ | ⟨e, he, d2, d1, d3, d4⟩
  · rw [hz] at d1
    rw [show f_X4_takeDigit N (wI u 31 2 (nI (s2 (um.1 2) n s + 1))) 8 = _ from d1, ob_s, if_pos rfl, if_pos (show f_X6_in (xs (um.1 2) n (s2 (um.1 2) n s + 1) - 48).toInt64 0 7 = 0 from d2)]
    exact Or.inr ⟨_, _, _, rfl, rfl, pR_spot h4 hz2⟩
  · rw [hz] at d1 d4
    have h5 := pR_spot h4 (show z + 1 ≤ n by omega)
    obtain ⟨r, u', z1, z2⟩ := pR_figure hN h5 hf hk he
    have w41 : (wI (wI w 0 8 (nI (s2 (um.1 2) n s + 1))) 0 8 (nI (z + 1))).1 1 241 = nI f := h5.2.2.1.2.2.2.2.2.1
    have w42 : (wI (wI (wI w 0 8 (nI (s2 (um.1 2) n s + 1))) 0 8 (nI (z + 1))) 1 (253 + f) (nI k)).1 1 241 = nI f := by rw [wI_at, pk_un (by omega)]; exact w41
    have w43 : (wI (wI (wI (wI w 0 8 (nI (s2 (um.1 2) n s + 1))) 0 8 (nI (z + 1))) 1 (253 + f) (nI k)) 1 (258 + f) (nI e)).1 1 241 = nI f := by rw [wI_at, pk_un (by omega)]; exact w42
    rw [show f_X4_takeDigit N (wI u 31 2 (nI (s2 (um.1 2) n s + 1))) 8 = _ from d1, ob_s, if_neg (show ¬ nI e = -4 from nI_n4 (by omega)), z1, ob_s, if_neg (show ¬ f_X6_in (xs (um.1 2) n (s2 (um.1 2) n s + 1) - 48).toInt64 0 7 = 0 from d3), d2, w41, show (253 : Int32) + nI f = nI (253 + f) from nI_add 253 f, og_nI (by omega) (by omega), nI_clamp (by omega), ol, w42, show (258 : Int32) + nI f = nI (258 + f) from nI_add 258 f, og_nI (by omega) (by omega), nI_clamp (by omega), ol, w43, show nI f + 1 = nI (f + 1) from nI_1 f]
    exact Or.inl ⟨_, _, _, rfl, rfl, z2⟩
theorem tune_read {N : Nat} {uc um u w : zS} {n s a f t : Nat} (hN : 300 ≤ N) (hn : n ≤ 60) (hT : ∀ i, i < n → uc.1 32 i = um.1 2 i) (h : pR uc um n u w s a f t) (ht : t < 16) : (∃ e u1 r u' w' s', f_X4_takeDigit N u (nI f) = some (nI e, u1) ∧ e < f ∧ f_X1_addToTune 21 u1 (nI e) = some (r, u') ∧ f_X6_takesTune N w = some (1, w') ∧ pR uc um n u' w' s' a f (t + 1)) ∨ (f_X4_takeDigit N u (nI f) = some (-4, wI u 31 2 (nI (s2 (um.1 2) n s))) ∧ f_X6_takesTune N w = some (0, wI w 0 8 (nI (s2 (um.1 2) n s)))) := by
  have hF := h.2.2.2.1.2.1
  obtain ⟨e1, e2⟩ := pR_next hN hn hT h
  obtain ⟨o1, o2, o3, o4, o5⟩ := s2_ok (T := um.1 2) h.1
  have r2 : (wI w 0 8 (nI (s2 (um.1 2) n s))).1 0 8 = nI (s2 (um.1 2) n s) := by rw [wI_at, pk_us]
  have r3 : (wI w 0 8 (nI (s2 (um.1 2) n s))).1 1 241 = nI f := by rw [wI_ne (by omega)]; exact h.2.2.1.2.2.2.2.2.1
  unfold f_X6_takesTune
  rw [e2, ob_s, r3, ol, r2, show nI (s2 (um.1 2) n s) + 1 = nI (s2 (um.1 2) n s + 1) from nI_1 _, wI_wI]
  rcases digit_read (m := f) hN hn hT (by omega) h with ⟨d1, d2⟩ | ⟨e, he, d2, d1, d3, d4⟩
  · right
    rw [d1, if_pos d2]
    exact ⟨rfl, rfl⟩
  · left
    have h5 := pR_spot h (show s2 (um.1 2) n s + 1 ≤ n by omega)
    obtain ⟨r, u', z1, z2⟩ := pR_tune h5 ht he
    have w41 : (wI w 0 8 (nI (s2 (um.1 2) n s + 1))).1 1 242 = nI t := h5.2.2.1.2.2.2.2.2.2.1
    have w42 : (wI (wI w 0 8 (nI (s2 (um.1 2) n s + 1))) 1 (263 + t) (nI e)).1 1 242 = nI t := by rw [wI_at, pk_un (by omega)]; exact w41
    rw [if_neg d3, d2, w41, show (263 : Int32) + nI t = nI (263 + t) from nI_add 263 t, og_nI (by omega) (by omega), nI_clamp (by omega), ol, ol, w42, show nI t + 1 = nI (t + 1) from nI_1 t]
    exact ⟨e, _, r, u', _, _, d1, he, z1, rfl, z2⟩
