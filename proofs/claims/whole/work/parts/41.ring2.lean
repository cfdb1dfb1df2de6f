def cEnd (N : Nat) (u : zS) : Option (Int32 × zS) := ob (f_X4_next N u) fun r7 => (if r7.1 = 0 then some (1, r7.2) else some (0, r7.2))
def mEnd (N : Nat) (w : zS) : Option (Int32 × zS) := ob (f_X6_peek N w) fun r7 => (if r7.1 = 0 then some (1, r7.2) else some (0, r7.2))
def oR (uc um : zS) (n : Nat) (c m : Option (Int32 × zS)) : Prop := ∃ fl u' w' s a f t, c = some (fl, u') ∧ m = some (fl, w') ∧ (fl = 0 ∨ fl = 1) ∧ pR uc um n u' w' s a f t
theorem end_eq {N : Nat} {uc um u w : zS} {n s a f t : Nat} (hN : 300 ≤ N) (hn : n ≤ 60) (hT : ∀ i, i < n → uc.1 32 i = um.1 2 i) (h : pR uc um n u w s a f t) : oR uc um n (cEnd N u) (mEnd N w) := by
  obtain ⟨o1, o2, o3, o4, o5⟩ := s2_ok (T := um.1 2) h.1
  have hsp := pR_spot h o2
  obtain ⟨e1, e2⟩ := pR_next hN hn hT h
  unfold cEnd mEnd
  rw [e1, e2, ob_s, ob_s]
  by_cases hx : xs (um.1 2) n s = 0
  · rw [if_pos hx, if_pos hx]; exact ⟨1, _, _, _, _, _, _, rfl, rfl, Or.inr rfl, hsp⟩
  · rw [if_neg hx, if_neg hx]; exact ⟨0, _, _, _, _, _, _, rfl, rfl, Or.inl rfl, hsp⟩
theorem peek_again {N : Nat} {uc um u w : zS} {n s a f t : Nat} (hN : 300 ≤ N) (hn : n ≤ 60) (hT : ∀ i, i < n → uc.1 32 i = um.1 2 i) (h : pR uc um n u w s a f t) : f_X6_peek N (wI w 0 8 (nI (s2 (um.1 2) n s))) = f_X6_peek N w := by
  obtain ⟨o1, o2, o3, o4, o5⟩ := s2_ok (T := um.1 2) h.1
  have hsp := pR_spot h o2
  rw [(pR_next hN hn hT h).2, (pR_next hN hn hT hsp).2, o3, o4, wI_wI]
/-- the reference's tune, behind a figure of it that was read -/
def mGo (N q2 : Nat) (w : zS) : Option (Int32 × zS) := os (if 16 ≤ (w.1 1 242) then some (.inr w) else (ob (f_X6_peek N w) fun r21 => (if r21.1 = 0 then some (.inr r21.2) else f_X6_takesRing_L57 N q2 r21.2))) (fun q24 => some q24) fun q23 => mEnd N q23
theorem L57_eq {N q2 : Nat} {w w' : zS} {r : Int32} (h : f_X6_takesTune N w = some (r, w')) : os (f_X6_takesRing_L57 N (q2 + 1) w) (fun q24 => some q24) (fun q23 => mEnd N q23) = if r = 0 then some (0, w') else mGo N q2 w' := by
  show os (f_X6_takesRing_L57_B N (f_X6_takesRing_L57 N q2) w) _ _ = _
  unfold f_X6_takesRing_L57_B mGo
  rw [h, ob_s]
  by_cases hr : r = 0
  · rw [if_pos hr, if_pos hr, os_l]
  · rw [if_neg hr, if_neg hr]
theorem tune_go {N : Nat} {uc um : zS} {n a f : Nat} (hN : 300 ≤ N) (hn : n ≤ 60) (hT : ∀ i, i < n → uc.1 32 i = um.1 2 i) : ∀ (k t q q2 : Nat) (u w : zS) (s : Nat), t + k = 16 → 1 ≤ t → k < q → k < q2 → pR uc um n u w s a f t → ∃ u' t', f_X4_readTune_L13 N q u (nI t) = some u' ∧ 1 ≤ t' ∧ t' ≤ 16 ∧ u'.1 21 8 = nI t' ∧ oR uc um n (cEnd N u') (mGo N q2 w) := by
  intro k
  induction k with
  | zero =>
    intro t q q2 u w s h1 h2 h3 h4 h
    obtain ⟨q, rfl⟩ : ∃ z, q = z + 1 := ⟨q - 1, by omega⟩
    have : t = 16 := by omega
    subst this
    refine ⟨u, 16, ?_, by omega, by omega, h.2.1.2.2.2.2.2.1, ?_⟩
    · show f_X4_readTune_L13_B N _ _ _ = _
      unfold f_X4_readTune_L13_B
      rw [if_pos (show (16 : Int32) ≤ nI 16 by decide)]
    · have : mGo N q2 w = mEnd N w := by
        unfold mGo
        rw [show w.1 1 242 = nI 16 from h.2.2.1.2.2.2.2.2.2.1, if_pos (show (16 : Int32) ≤ nI 16 by decide), os_r]
      rw [this]
      exact end_eq hN hn hT h
  | succ k ih =>
    intro t q q2 u w s h1 h2 h3 h4 h
    obtain ⟨q, rfl⟩ : ∃ z, q = z + 1 := ⟨q - 1, by omega⟩
    obtain ⟨q2, rfl⟩ : ∃ z, q2 = z + 1 := ⟨q2 - 1, by omega⟩
    have u7 : u.1 21 7 = nI f := h.2.1.2.2.2.2.1
    have w2 : w.1 1 242 = nI t := h.2.2.1.2.2.2.2.2.2.1
    have n16 : ¬ (16 : Int32) ≤ nI t := nI_ge (a := t) (b := 16) (by omega) (by omega)
    obtain ⟨o1, o2, o3, o4, o5⟩ := s2_ok (T := um.1 2) h.1
    have hsp := pR_spot h o2
    obtain ⟨e1, e2⟩ := pR_next hN hn hT h
    have eC : f_X4_readTune_L13 N (q + 1) u (nI t) = f_X4_readTune_L13_B N (f_X4_readTune_L13 N q) u (nI t) := rfl
    rw [eC]
    unfold f_X4_readTune_L13_B
    rw [if_neg n16, u7]
    have sp8 : (wI u 31 2 (nI (s2 (um.1 2) n s))).1 21 8 = nI t := hsp.2.1.2.2.2.2.2.1
    by_cases hx : xs (um.1 2) n s = 0
    · -- the end of the tape
      have eM : mGo N (q2 + 1) w = mEnd N (wI w 0 8 (nI (s2 (um.1 2) n s))) := by
        unfold mGo
        rw [w2, if_neg n16, e2, ob_s, if_pos hx, os_r]
      rcases digit_read (m := f) hN hn hT (by have := h.2.2.2.1.2.1; omega) h with ⟨d1, d2⟩ | ⟨e, he, d2, d1, d3, d4⟩
      · rw [d1, ob_s, if_pos rfl, eM]
        exact ⟨_, t, rfl, h2, by omega, sp8, end_eq hN hn hT hsp⟩
      · exfalso
        rw [hx] at d2
        have := congrArg Int32.toInt d2
        have hF := h.2.2.2.1.2.1
        rw [nI_toInt (by omega), show ((0 : Int32) - 48).toInt = -48 by decide] at this
        omega
    · have eP : f_X6_takesTune N (wI w 0 8 (nI (s2 (um.1 2) n s))) = f_X6_takesTune N w := by
        unfold f_X6_takesTune
        rw [peek_again hN hn hT h]
      have eM : ∀ r w', f_X6_takesTune N w = some (r, w') → mGo N (q2 + 1) w = if r = 0 then some (0, w') else mGo N q2 w' := by
        intro r w' hr
        have := L57_eq (q2 := q2) (show f_X6_takesTune N (wI w 0 8 (nI (s2 (um.1 2) n s))) = some (r, w') by rw [eP]; exact hr)
        rw [← this]
        conv => lhs; unfold mGo
        rw [w2, if_neg n16, e2, ob_s, if_neg hx]
      rcases tune_read hN hn hT h (by omega) with ⟨e, u1, r, u', w', s', g1, g2, g3, g4, g5⟩ | ⟨g1, g2⟩
      · have he := h.2.2.2.1.2.1
        rw [g1, ob_s, if_neg (show ¬ nI e = -4 from nI_n4 (by omega)), g3, ob_s, show nI t + 1 = nI (t + 1) from nI_1 t, eM _ _ g4, if_neg (show ¬ (1 : Int32) = 0 by decide)]
        exact ih (t + 1) q q2 u' w' s' (by omega) (by omega) (by omega) (by omega) g5
      · rw [g1, ob_s, if_pos rfl, eM _ _ g2, if_pos rfl]
        refine ⟨_, t, rfl, h2, by omega, sp8, 0, _, _, _, _, _, _, ?_, rfl, Or.inl rfl, hsp⟩
        unfold cEnd
        rw [(pR_next hN hn hT hsp).1, o3, o4, wI_wI, ob_s, if_neg hx]
theorem tune_eq {N : Nat} {uc um u w : zS} {n s a f : Nat} (hN : 300 ≤ N) (hn : n ≤ 60) (hT : ∀ i, i < n → uc.1 32 i = um.1 2 i) (h : pR uc um n u w s a f 0) : oR uc um n (ob (ob (f_X4_readTune N u) fun r13 => (og (zzB r13.1) <| some (r13.1, r13.2))) fun r5 => (if r5.1 = 0 then some (0, r5.2) else cEnd N r5.2)) (f_X6_takesRing_J48 N w) := by
  obtain ⟨o1, o2, o3, o4, o5⟩ := s2_ok (T := um.1 2) h.1
  obtain ⟨t1, t2⟩ := pR_takes hN hn hT h 58
  unfold f_X4_readTune f_X6_takesRing_J48
  rw [t1, t2]
  by_cases hx : xs (um.1 2) n s = 58
  · have hlt := o5 (by rw [hx]; decide)
    have h5 := pR_spot h (show s2 (um.1 2) n s + 1 ≤ n by omega)
    rw [if_pos hx, if_pos hx, ob_s, ob_s, if_neg (show ¬ (1 : Int32) = 0 by decide), if_neg (show ¬ (1 : Int32) = 0 by decide)]
    obtain ⟨N', rfl⟩ : ∃ z, N = z + 1 := ⟨N - 1, by omega⟩
    have u7 : (wI u 31 2 (nI (s2 (um.1 2) n s + 1))).1 21 7 = nI f := h5.2.1.2.2.2.2.1
    rcases tune_read hN hn hT h5 (by omega) with ⟨e, u1, r, u', w', s', g1, g2, g3, g4, g5⟩ | ⟨g1, g2⟩
    · have he := h.2.2.2.1.2.1
      obtain ⟨v, t', k1, k2, k3, k4, k5⟩ := tune_go hN hn hT 15 1 N' N' u' w' s' (by omega) (by omega) (by omega) (by omega) g5
      have eL : f_X4_readTune_L13 (N' + 1) (N' + 1) (wI u 31 2 (nI (s2 (um.1 2) n s + 1))) 0 = some v := by
        show f_X4_readTune_L13_B (N' + 1) (f_X4_readTune_L13 (N' + 1) N') _ _ = _
        unfold f_X4_readTune_L13_B
        rw [if_neg (show ¬ (16 : Int32) ≤ 0 by decide), u7, g1, ob_s, if_neg (show ¬ nI e = -4 from nI_n4 (by omega)), g3, ob_s]
        exact k1
      have eM := L57_eq (q2 := N') g4
      rw [if_neg (show ¬ (1 : Int32) = 0 by decide)] at eM
      rw [eL, ob_s, k4, if_neg (show ¬ nI t' ≤ 0 from nI_nle (by omega) (by omega)), ob_s, show zzB 1 = true by decide, og_t, ob_s, if_neg (show ¬ (1 : Int32) = 0 by decide)]
      rw [← eM] at k5
      exact k5
    · have eL : f_X4_readTune_L13 (N' + 1) (N' + 1) (wI u 31 2 (nI (s2 (um.1 2) n s + 1))) 0 = some (wI (wI u 31 2 (nI (s2 (um.1 2) n s + 1))) 31 2 (nI (s2 (um.1 2) n (s2 (um.1 2) n s + 1)))) := by
        show f_X4_readTune_L13_B (N' + 1) (f_X4_readTune_L13 (N' + 1) N') _ _ = _
        unfold f_X4_readTune_L13_B
        rw [if_neg (show ¬ (16 : Int32) ≤ 0 by decide), u7, g1, ob_s, if_pos rfl]
      have eM := L57_eq (q2 := N') g2
      rw [if_pos rfl] at eM
      have h6 := pR_spot h5 (s2_ok (T := um.1 2) h5.1).2.1
      have k4 := h6.2.1.2.2.2.2.2.1
      rw [eL, ob_s, k4, if_pos (show nI 0 ≤ (0 : Int32) by decide), ob_s, show zzB 0 = true by decide, og_t, ob_s, if_pos rfl]
      exact ⟨0, _, _, _, _, _, _, rfl, eM, Or.inl rfl, h6⟩
  · have hsp := pR_spot h o2
    rw [if_neg hx, if_neg hx, ob_s, ob_s, if_pos rfl, if_pos rfl, ob_s, show zzB 1 = true by decide, og_t, ob_s, if_neg (show ¬ (1 : Int32) = 0 by decide)]
    exact end_eq hN hn hT hsp
/-- the class's way on behind its figures; the reference's way on behind a figure -/
def cFig (N : Nat) (r : Option ((Int32 × zS) ⊕ zS)) : Option (Int32 × zS) := ob (os r (fun q12 => some q12) fun q11 => (ob (f_X4_readTune N q11) fun r13 => (og (zzB r13.1) <| some (r13.1, r13.2)))) fun r5 => (if r5.1 = 0 then some (0, r5.2) else cEnd N r5.2)
def mFig (N q2 : Nat) (w : zS) : Option (Int32 × zS) := os (if 5 ≤ (w.1 1 241) then some (.inr w) else (ob (f_X6_takes N w 44) fun r10 => (if r10.1 = 0 then some (.inr r10.2) else f_X6_takesRing_L18 N q2 r10.2))) (fun q13 => some q13) fun q12 => f_X6_takesRing_J48 N q12
theorem L18_eq {N q2 : Nat} {w w' : zS} {r : Int32} (h : f_X6_takesFigure N w = some (r, w')) : os (f_X6_takesRing_L18 N (q2 + 1) w) (fun q13 => some q13) (fun q12 => f_X6_takesRing_J48 N q12) = if r = 0 then some (0, w') else mFig N q2 w' := by
  show os (f_X6_takesRing_L18_B N (f_X6_takesRing_L18 N q2) w) _ _ = _
  unfold f_X6_takesRing_L18_B mFig
  rw [h, ob_s]
  by_cases hr : r = 0
  · rw [if_pos hr, if_pos hr, os_l]
  · rw [if_neg hr, if_neg hr]
theorem figs_go {N : Nat} {uc um : zS} {n a : Nat} (hN : 300 ≤ N) (hn : n ≤ 60) (hT : ∀ i, i < n → uc.1 32 i = um.1 2 i) : ∀ (k f q q2 : Nat) (u w : zS) (s : Nat), f + k = 5 → 1 ≤ f → k < q → k < q2 → pR uc um n u w s a f 0 → oR uc um n (cFig N (f_X4_readFigures_L13 N q u (nI f))) (mFig N q2 w) := by
  intro k
  induction k with
  | zero =>
    intro f q q2 u w s h1 h2 h3 h4 h
    obtain ⟨q, rfl⟩ : ∃ z, q = z + 1 := ⟨q - 1, by omega⟩
    have : f = 5 := by omega
    subst this
    have eC : f_X4_readFigures_L13 N (q + 1) u (nI 5) = some (.inr u) := by
      show f_X4_readFigures_L13_B N _ _ _ = _
      unfold f_X4_readFigures_L13_B
      rw [if_pos (show (5 : Int32) ≤ nI 5 by decide)]
    unfold cFig mFig
    rw [eC, os_r, show w.1 1 241 = nI 5 from h.2.2.1.2.2.2.2.2.1, if_pos (show (5 : Int32) ≤ nI 5 by decide), os_r]
    exact tune_eq hN hn hT h
  | succ k ih =>
    intro f q q2 u w s h1 h2 h3 h4 h
    obtain ⟨q, rfl⟩ : ∃ z, q = z + 1 := ⟨q - 1, by omega⟩
    obtain ⟨q2, rfl⟩ : ∃ z, q2 = z + 1 := ⟨q2 - 1, by omega⟩
    obtain ⟨o1, o2, o3, o4, o5⟩ := s2_ok (T := um.1 2) h.1
    obtain ⟨t1, t2⟩ := pR_takes hN hn hT h 44
    have eC : f_X4_readFigures_L13 N (q + 1) u (nI f) = f_X4_readFigures_L13_B N (f_X4_readFigures_L13 N q) u (nI f) := rfl
    have n5 : ¬ (5 : Int32) ≤ nI f := nI_ge (a := f) (b := 5) (by omega) (by omega)
    have w1 : w.1 1 241 = nI f := h.2.2.1.2.2.2.2.2.1
    rw [eC]
    unfold f_X4_readFigures_L13_B
    rw [if_neg n5, if_neg (show ¬ nI f ≤ 0 from nI_nle (by omega) (by omega)), t1]
    by_cases hx : xs (um.1 2) n s = 44
    · have hlt := o5 (by rw [hx]; decide)
      have h5 := pR_spot h (show s2 (um.1 2) n s + 1 ≤ n by omega)
      have eM : ∀ r w', f_X6_takesFigure N (wI w 0 8 (nI (s2 (um.1 2) n s + 1))) = some (r, w') → mFig N (q2 + 1) w = if r = 0 then some (0, w') else mFig N q2 w' := by
        intro r w' hr
        rw [← L18_eq (q2 := q2) hr]
        conv => lhs; unfold mFig
        rw [w1, if_neg n5, t2, if_pos hx, ob_s, if_neg (show ¬ (1 : Int32) = 0 by decide)]
      rw [if_pos hx, ob_s, if_neg (show ¬ (1 : Int32) = 0 by decide)]
      rcases fig_read hN hn hT h5 (by omega) with ⟨u', w', s', g1, g2, g3⟩ | ⟨u', w', s', g1, g2, g3⟩
      · rw [g1, ob_s, if_neg (show ¬ (1 : Int32) = 0 by decide), eM _ _ g2, if_neg (show ¬ (1 : Int32) = 0 by decide), show nI f + 1 = nI (f + 1) from nI_1 f]
        exact ih (f + 1) q q2 u' w' s' (by omega) (by omega) (by omega) (by omega) g3
      · rw [g1, ob_s, if_pos rfl, eM _ _ g2, if_pos rfl]
        unfold cFig
        rw [os_l, ob_s, if_pos rfl]
        exact ⟨0, _, _, _, _, _, _, rfl, rfl, Or.inl rfl, g3⟩
    · have hsp := pR_spot h o2
      have eM : mFig N (q2 + 1) w = f_X6_takesRing_J48 N (wI w 0 8 (nI (s2 (um.1 2) n s))) := by
        unfold mFig
        rw [w1, if_neg n5, t2, if_neg hx, ob_s, if_pos rfl, os_r]
      rw [if_neg hx, ob_s, if_pos rfl, eM]
      unfold cFig
      rw [os_r]
      exact tune_eq hN hn hT hsp
theorem into_eq {N : Nat} {uc um u w : zS} {n : Nat} (hN : 300 ≤ N) (hn : n ≤ 60) (hT : ∀ i, i < n → uc.1 32 i = um.1 2 i) (h : pR uc um n u w 0 0 0 0) : oR uc um n (ob (f_X4_readPlaces N u) fun r3 => (if r3.1 = 0 then some (0, r3.2) else (ob (f_X4_readFigures N r3.2) fun r5 => (if r5.1 = 0 then some (0, r5.2) else cEnd N r5.2)))) (f_X6_takesRing N w) := by
  unfold f_X4_readPlaces f_X6_takesRing f_X6_takesPlaces
  rcases places_read (N := N) hN hn hT 8 0 N N u w 0 0 (by omega) (by omega) (by omega) (by omega) h with ⟨u', w', s', a', g1, g2, g3⟩ | ⟨u', w', s', a', g1, g2, g3⟩
  · rw [show f_X4_readPlaces_L2 N N u 0 = _ from g1, show f_X6_takesPlaces_L2 N N w 0 = _ from g2, os_r, os_r, ob_s, ob_s, if_neg (show ¬ (1 : Int32) = 0 by decide), if_neg (show ¬ (1 : Int32) = 0 by decide)]
    obtain ⟨o1, o2, o3, o4, o5⟩ := s2_ok (T := um.1 2) g3.1
    obtain ⟨t1, t2⟩ := pR_takes hN hn hT g3 59
    unfold f_X4_readFigures
    rw [t1, t2]
    by_cases hx : xs (um.1 2) n s' = 59
    · have hlt := o5 (by rw [hx]; decide)
      have h5 := pR_spot g3 (show s2 (um.1 2) n s' + 1 ≤ n by omega)
      rw [if_pos hx, if_pos hx, ob_s, ob_s, if_neg (show ¬ (1 : Int32) = 0 by decide), if_neg (show ¬ (1 : Int32) = 0 by decide)]
      obtain ⟨N', rfl⟩ : ∃ z, N = z + 1 := ⟨N - 1, by omega⟩
      have eC : f_X4_readFigures_L13 (N' + 1) (N' + 1) (wI u' 31 2 (nI (s2 (um.1 2) n s' + 1))) 0 = f_X4_readFigures_L13_B (N' + 1) (f_X4_readFigures_L13 (N' + 1) N') (wI u' 31 2 (nI (s2 (um.1 2) n s' + 1))) 0 := rfl
      show oR uc um n (cFig (N' + 1) (f_X4_readFigures_L13 (N' + 1) (N' + 1) (wI u' 31 2 (nI (s2 (um.1 2) n s' + 1))) 0)) _
      rw [eC]
      unfold f_X4_readFigures_L13_B
      rw [if_neg (show ¬ (5 : Int32) ≤ 0 by decide), if_pos (show (0 : Int32) ≤ 0 by decide)]
      rcases fig_read hN hn hT h5 (by omega) with ⟨u2, w2, s2', k1, k2, k3⟩ | ⟨u2, w2, s2', k1, k2, k3⟩
      · have eM := L18_eq (q2 := N') k2
        rw [if_neg (show ¬ (1 : Int32) = 0 by decide)] at eM
        rw [k1, ob_s, if_neg (show ¬ (1 : Int32) = 0 by decide)]
        have := figs_go hN hn hT 4 1 N' N' u2 w2 s2' (by omega) (by omega) (by omega) (by omega) k3
        rw [← eM] at this
        exact this
      · have eM := L18_eq (q2 := N') k2
        rw [if_pos rfl] at eM
        rw [k1, ob_s, if_pos rfl]
        unfold cFig
        rw [os_l, ob_s, if_pos rfl]
        exact ⟨0, _, _, _, _, _, _, rfl, eM, Or.inl rfl, k3⟩
    · have hsp := pR_spot g3 o2
      rw [if_neg hx, if_neg hx, ob_s, ob_s, if_pos rfl, if_pos rfl, ob_s, if_neg (show ¬ (1 : Int32) = 0 by decide)]
      exact end_eq hN hn hT hsp
  · rw [show f_X4_readPlaces_L2 N N u 0 = _ from g1, show f_X6_takesPlaces_L2 N N w 0 = _ from g2, os_l, os_l, ob_s, ob_s, if_pos rfl, if_pos rfl]
    exact ⟨0, _, _, _, _, _, _, rfl, rfl, Or.inl rfl, g3⟩
