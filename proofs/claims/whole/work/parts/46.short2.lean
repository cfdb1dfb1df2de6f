theorem ok_shortest {N : Nat} {uc um : zS} (hN : 300000000 ≤ N) (h : RR uc um) (a0 a1' : Int32) : op_shortest N RR uc um a0 a1' := by
  unfold op_shortest f_X5_shortest f_X6_shortest
  rw [show f_X6_in a0.toInt64 0 255 = f_X5_within a0 0 255 from in_within a0 0 255]
  rcases wi a0 (lo := 0) (hi := 255) (by omega) (by omega) with h0 | ⟨t, _, ht, rfl, h2⟩
  · have h0 : f_X5_within a0 0 255 = 0 := h0
    rw [if_pos h0, if_pos h0]; exact ⟨_, _, _, rfl, rfl, h⟩
  have h2n : ¬ f_X5_within (nI t) 0 255 = 0 := by rw [show f_X5_within (nI t) 0 255 = 1 from h2]; decide
  rw [if_neg h2n, if_neg h2n]
  rcases Classical.em (¬ (-1 : Int32) ≤ a1') with hk | hk
  · rw [if_neg hk, if_neg hk]; exact ⟨_, _, _, rfl, rfl, h⟩
  have hk : (-1 : Int32) ≤ a1' := Classical.not_not.mp hk
  rw [if_pos hk, if_pos hk]
  obtain ⟨nA, nF, nT, nB, kn, sl, hG⟩ := h.1
  have hG : RG uc um nA nF nT nB kn sl := hG
  have hF := hG.1.2.1.2.1
  obtain ⟨s1, s2⟩ := RG_stand (N := N) (by omega) hG
  obtain ⟨m, hm, em⟩ := stF_lt hG.1.2.2.2.1
  have h7 : uc.1 1 7 = nI nF := hG.2.1.2.1.trans hG.1.1.2.1
  obtain ⟨v, Q, par, lab, lev, R, z1, z2, z3⟩ := explore_eq (N := N) (by omega) hG.1 hG.2.t h7 hm
  obtain ⟨w, E, y1, y2, y3⟩ := left_eq hN hG.1 (show t < 256 by omega)
  have s3 : f_X6_taken N w = some (nI m) := by
    have e1 : w.1 1 = um.1 1 := y2.2.1 1 (by omega)
    rw [taken_eq (n := nA) (by omega) (by rw [e1]; exact hG.1.1.1) hG.1.2.1.1 (fun i hi => by rw [e1]; exact hG.1.2.2.2.1 i hi), e1, em]
  have hR := b_le z2
  have hfin : RR v w := RR_search h z3 y2.1 (fun c hc => y2.2.1 c (by omega))
  have hEm := y2.2.2.2.1 m hm
  rw [s1, ob_s, em, z1, ob_s, y1, ob_s, s3, ob_s, og_nI hm (by omega), nI_clamp (show m < 2 ^ 31 by omega), y2.2.2.1 m hm, og_nI hm (by omega), ol]
  unfold f_X2_howFar f_X2_figureOnWay
  rw [og_nI (i := t) (by omega) (by omega), nI_clamp (show t < 2 ^ 31 by omega), og_nI (i := t) (by omega) (by omega)]
  have Q0 : Q 0 = m := z2.1.2.1
  have l0 : lev 0 = 0 := z2.1.2.2
  have R0 : 0 < R := z2.1.1
  by_cases ex : ∃ x, x < R ∧ Q x = t
  · obtain ⟨x, hx, ex⟩ := ex
    have hL := b_lev z2 x hx
    have f38 : v.1 38 t = nI (lev x) := by rw [← ex]; exact z3.2.2.2.2.1 x hx
    -- anything as far as nothing is the start
    have lz : ∀ i, i < R → lev i = 0 → i = 0 := fun i hi e => by
      by_cases e0 : i = 0
      · exact e0
      · have := (z2.2.2.1 i (by omega) hi).2.2.2.1
        omega
    have Ele : ∀ n, n ≤ lev x → E (Q (anc par n x)) = n := by
      intro n hn
      obtain ⟨b1, b2, b3⟩ := e_anc z2 hx n hn
      rw [ex] at b3
      have hq := z2.2.2.2.2.2 _ b1
      have l1 := y3 n _ hq b3
      have l2 := y2.2.2.2.2.2 _ hq (by omega)
      obtain ⟨i, i1, i2, i3⟩ := e_bk z2 _ _ b1 l2
      have : i = x := z2.2.1 i x i1 hx (by rw [i2, ex])
      rw [this] at i3
      omega
    have aL : anc par (lev x) x = 0 := by
      obtain ⟨b1, b2, -⟩ := e_anc z2 hx (lev x) (Nat.le_refl _)
      exact lz _ b1 (by omega)
    have eE : E m = lev x := by
      have := Ele (lev x) (Nat.le_refl _)
      rw [aL, Q0] at this
      exact this
    rw [f38, eE, if_neg (show ¬ nI (lev x) = -4 from nI_n4 (by omega)), if_pos (show nI (lev x) < 1000000 from nI_lt (a := lev x) (b := 1000000) (by omega) (by omega))]
    by_cases hm1 : a1' = -1
    · rw [if_pos hm1, if_neg (show ¬ (0 : Int32) ≤ a1' by rw [hm1]; decide), ob_s]
      exact ⟨_, _, _, rfl, rfl, hfin⟩
    have h0k : ¬ a1' < 0 := fun q => hm1 (by
      rw [fa_le, show (-1 : Int32).toInt = -1 by decide] at hk
      rw [fa_lt, show (0 : Int32).toInt = 0 by decide] at q
      rw [fa_eq, show (-1 : Int32).toInt = -1 by decide]
      omega)
    obtain ⟨k, hk2, rfl⟩ := nI_of h0k
    rw [if_neg hm1, if_pos (show (0 : Int32) ≤ nI k from nI_le (a := 0) (by omega) hk2)]
    rcases Classical.em (¬ k < lev x) with hkL | hkL
    · have hnk : ¬ nI k < nI (lev x) := nI_nlt (by omega) (by omega)
      rw [if_neg hnk, if_neg hnk, og_nI (i := t) (by omega) (by omega), ob_s]
      exact ⟨_, _, _, rfl, rfl, hfin⟩
    have hkL : k < lev x := Classical.not_not.mp hkL
    have hltk : nI k < nI (lev x) := nI_lt hkL (by omega)
    rw [if_pos hltk, if_pos hltk, og_nI (i := t) (by omega) (by omega)]
    -- the class walks back
    have back : ∀ (d j q : Nat), j + d = lev x - 1 - k → d < q → f_X2_figureOnWay_L36 N v (nI k) q (nI (Q (anc par j x))) (nI (lev x - 1 - j)) = some (nI (Q (anc par (lev x - 1 - k) x))) := by
      intro d
      induction d with
      | zero =>
        intro j q g1 g2
        obtain ⟨q, rfl⟩ : ∃ z, q = z + 1 := ⟨q - 1, by omega⟩
        have : j = lev x - 1 - k := by omega
        rw [← this]
        show f_X2_figureOnWay_L36_B N _ _ _ _ _ = _
        unfold f_X2_figureOnWay_L36_B
        rw [if_pos (nI_le (by omega) (by omega))]
      | succ d ih =>
        intro j q g1 g2
        obtain ⟨q, rfl⟩ : ∃ z, q = z + 1 := ⟨q - 1, by omega⟩
        obtain ⟨b1, b2, -⟩ := e_anc z2 hx j (by omega)
        have hq := z2.2.2.2.2.2 _ b1
        have hne : anc par j x ≠ 0 := fun e => by rw [e, l0] at b2; omega
        have f39 := (z3.2.2.2.2.2.2 (anc par j x) (by omega) b1).1
        show f_X2_figureOnWay_L36_B N _ _ _ _ _ = _
        unfold f_X2_figureOnWay_L36_B
        rw [if_neg (nI_ge (by omega) (by omega)), og_nI hq (by omega), nI_clamp (by omega), f39, ol, show nI (lev x - 1 - j) + (-1) = nI (lev x - 1 - (j + 1)) by rw [show lev x - 1 - j = lev x - 1 - (j + 1) + 1 by omega]; exact pk_m1 _]
        exact ih (j + 1) q (by omega) (by omega)
    have hb := back (lev x - 1 - k) 0 N (by omega) (by omega)
    rw [show anc par 0 x = x from rfl, ex, Nat.sub_zero] at hb
    obtain ⟨c1, c2, -⟩ := e_anc z2 hx (lev x - 1 - k) (by omega)
    have cq := z2.2.2.2.2.2 _ c1
    have cne : anc par (lev x - 1 - k) x ≠ 0 := fun e => by rw [e, l0] at c2; omega
    have f40 := (z3.2.2.2.2.2.2 (anc par (lev x - 1 - k) x) (by omega) c1).2
    rw [show nI (lev x) - 1 = nI (lev x - 1) from pk_sub (a := lev x) (b := 1) (by omega), hb, ob_s, og_nI cq (by omega), nI_clamp (by omega), f40, og_nI (i := t) (by omega) (by omega), ob_s]
    -- the reference goes on
    have find : ∀ (n j : Nat), n + 1 + j = lev x → ∀ (d f q : Nat), f + d = lab (anc par n x) → d < q → f_X6_shortest_L82 N w (nI k) (nI (Q (anc par (n + 1) x))) (nI (lev x)) (nI j) q (nI f) = some (nI (lab (anc par n x))) := by
      intro n j hn
      obtain ⟨b1, b2, -⟩ := e_anc z2 hx n (by omega)
      obtain ⟨a1, a2, -⟩ := e_anc z2 hx (n + 1) (by omega)
      have hne : anc par n x ≠ 0 := fun e => by rw [e, l0] at b2; omega
      obtain ⟨p1, p2, p3, p4, p5⟩ := z2.2.2.1 (anc par n x) (by omega) b1
      have hqa := z2.2.2.2.2.2 _ a1
      have eR : (nI (lev x) - nI j) - 1 = nI n := by
        rw [pk_sub (by omega), show lev x - j = n + 1 by omega]
        exact pk_sub (a := n + 1) (b := 1) (by omega)
      have st : ∀ f q, f < nF → f_X6_shortest_L82 N w (nI k) (nI (Q (anc par (n + 1) x))) (nI (lev x)) (nI j) (q + 1) (nI f) = if nI (E (Gs (um.1 1) f (Q (anc par (n + 1) x)))) = nI n then some (nI f) else f_X6_shortest_L82 N w (nI k) (nI (Q (anc par (n + 1) x))) (nI (lev x)) (nI j) q (nI (f + 1)) := by
        intro f q hf
        have hmm := Gs_lt hG.1 hf (Q (anc par (n + 1) x))
        show f_X6_shortest_L82_B N _ _ _ _ _ _ _ = _
        unfold f_X6_shortest_L82_B
        rw [setLedM_eq (by omega) (y2.2.1 1 (by omega)) hG.1 hf hqa, ob_s, og_nI hmm (by omega), nI_clamp (by omega), y2.2.2.1 _ hmm, eR, show nI f + 1 = nI (f + 1) from nI_1 f]
      intro d
      induction d with
      | zero =>
        intro f q g1 g2
        obtain ⟨q, rfl⟩ : ∃ z, q = z + 1 := ⟨q - 1, by omega⟩
        have ef : f = lab (anc par n x) := by omega
        rw [st f q (by omega), ef, show Gs (um.1 1) (lab (anc par n x)) (Q (anc par (n + 1) x)) = Q (anc par n x) from p3, Ele n (by omega), if_pos rfl]
      | succ d ih =>
        intro f q g1 g2
        obtain ⟨q, rfl⟩ : ∃ z, q = z + 1 := ⟨q - 1, by omega⟩
        have hmm := Gs_lt hG.1 (show f < nF by omega) (Q (anc par (n + 1) x))
        have hE := y2.2.2.2.1 _ hmm
        rw [st f q (by omega), if_neg]
        · exact ih (f + 1) q (by omega) (by omega)
        · intro e
          have e2 := (nI_eq (by omega) (by omega)).mp e
          have hb := y2.2.2.2.2.2 _ hmm (by omega)
          rw [e2, ← ex] at hb
          have := e_least z2 hx (by omega) (show f < nF by omega) hb
          omega
    have go : ∀ (d j q : Nat) (v5 : Int32), j + d = k + 1 → d < q → (j = 0 ∨ v5 = nI (lab (anc par (lev x - j) x))) → f_X6_shortest_L73 N w (nI k) (nI (lev x)) q (nI (Q (anc par (lev x - j) x))) v5 (nI j) = some (nI (lab (anc par (lev x - 1 - k) x))) := by
      intro d
      induction d with
      | zero =>
        intro j q v5 g1 g2 g3
        obtain ⟨q, rfl⟩ : ∃ z, q = z + 1 := ⟨q - 1, by omega⟩
        show f_X6_shortest_L73_B N _ _ _ _ _ _ _ = _
        unfold f_X6_shortest_L73_B
        rw [if_pos (nI_lt (by omega) (by omega))]
        rcases g3 with g3 | g3
        · omega
        · rw [g3, show lev x - j = lev x - 1 - k by omega]
      | succ d ih =>
        intro j q v5 g1 g2 g3
        obtain ⟨q, rfl⟩ : ∃ z, q = z + 1 := ⟨q - 1, by omega⟩
        have hn : lev x - (j + 1) + 1 + j = lev x := by omega
        obtain ⟨b1, b2, -⟩ := e_anc z2 hx (lev x - (j + 1)) (by omega)
        obtain ⟨a1, a2, -⟩ := e_anc z2 hx (lev x - (j + 1) + 1) (by omega)
        have hne : anc par (lev x - (j + 1)) x ≠ 0 := fun e => by rw [e, l0] at b2; omega
        obtain ⟨p1, p2, p3, p4, p5⟩ := z2.2.2.1 (anc par (lev x - (j + 1)) x) (by omega) b1
        have hqa := z2.2.2.2.2.2 _ a1
        have fi := find (lev x - (j + 1)) j hn (lab (anc par (lev x - (j + 1)) x)) 0 N (by omega) (by omega)
        show f_X6_shortest_L73_B N _ _ _ _ _ _ _ = _
        unfold f_X6_shortest_L73_B
        rw [if_neg (nI_nlt (by omega) (by omega)), show lev x - j = lev x - (j + 1) + 1 by omega, show f_X6_shortest_L82 N w (nI k) (nI (Q (anc par (lev x - (j + 1) + 1) x))) (nI (lev x)) (nI j) N 0 = _ from fi, ob_s, setLedM_eq (by omega) (y2.2.1 1 (by omega)) hG.1 p2 hqa, ob_s, show Gs (um.1 1) (lab (anc par (lev x - (j + 1)) x)) (Q (anc par (lev x - (j + 1) + 1) x)) = Q (anc par (lev x - (j + 1)) x) from p3, show nI j + 1 = nI (j + 1) from nI_1 j]
        exact ih (j + 1) q _ (by omega) (by omega) (Or.inr rfl)
    have hg := go (k + 1) 0 N 0 (by omega) (by omega) (Or.inl rfl)
    rw [Nat.sub_zero, aL, Q0] at hg
    rw [show f_X6_shortest_L73 N w (nI k) (nI (lev x)) N (nI m) 0 0 = _ from hg, ob_s]
    exact ⟨_, _, _, rfl, rfl, hfin⟩
  · -- it is come to by no row of figures
    have f38 : v.1 38 t = -4 := z3.2.2.2.2.2.1 t (by omega) (fun i hi e => ex ⟨i, hi, e⟩)
    have hE : ¬ nI (E m) < 1000000 := by
      intro q
      have q2 : E m < 1000000 := (nI_ltI (a := E m) (b := 1000000) (by omega) (by omega)).mp q
      have hb := y2.2.2.2.2.2 m hm q2
      rw [← Q0] at hb
      obtain ⟨i, i1, i2, -⟩ := e_bk z2 _ 0 R0 hb
      exact ex ⟨i, i1, i2⟩
    rw [f38, if_pos rfl, if_neg hE]
    by_cases hm1 : a1' = -1
    · rw [if_pos hm1, ob_s]; exact ⟨_, _, _, rfl, rfl, hfin⟩
    · rw [if_neg hm1, ob_s]; exact ⟨_, _, _, rfl, rfl, hfin⟩
