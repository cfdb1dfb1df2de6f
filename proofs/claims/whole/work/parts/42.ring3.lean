theorem ok_ring {N : Nat} {uc um : zS} (hN : 300 ≤ N) (h : RR uc um) : op_ring N RR uc um := by
  unfold op_ring f_X5_ring f_X4_readInto f_X6_ring
  obtain ⟨⟨nA, nF, nT, nB, kn, sl, hW, hc⟩, him, ⟨⟨sl2, hsl, esl⟩, n, hn, t1, t2, t3⟩, hsh⟩ := id h
  -- the class begins
  rw [ol, ol]
  generalize hu0 : f_X1_clear 21 (wI uc 31 2 0) = u0
  have hC : pC uc n u0 0 0 0 0 := by
    rw [← hu0]
    unfold f_X1_clear f_X0_forget
    rw [ol, ol, ol, ol, ol, ol]
    refine ⟨rfl, fun c g1 g2 => by rw [wI_ne (by omega), wI_ne (by omega), wI_ne (by omega), wI_ne (by omega), wI_ne (by omega), wI_ne (by omega)], ⟨?_, ?_, ?_, ?_⟩, ?_, ?_, ?_, ?_⟩
    · rw [wI_ne (by omega), wI_ne (by omega), wI_ne (by omega), wI_ne (by omega), wI_ne (by omega), wI_at, pk_un (by omega)]; exact t1
    · rw [wI_ne (by omega), wI_ne (by omega), wI_ne (by omega), wI_ne (by omega), wI_ne (by omega), wI_at, pk_us]; rfl
    · rw [show (27 : Nat) = 21 + 6 from rfl, wI_at, pk_un (by omega), wI_ne (by omega), wI_ne (by omega), wI_ne (by omega), wI_ne (by omega), wI_ne (by omega)]
    · rw [show (27 : Nat) = 21 + 6 from rfl, wI_at, pk_us]; rfl
    · rw [wI_ne (by omega), wI_at, wI_at, wI_at, wI_at, pk_un (by omega), pk_un (by omega), pk_un (by omega), pk_us]; rfl
    · rw [wI_ne (by omega), wI_at, wI_at, wI_at, wI_at, pk_un (by omega), pk_un (by omega), pk_us]; rfl
    · rw [wI_ne (by omega), wI_at, wI_at, wI_at, wI_at, pk_un (by omega), pk_us]; rfl
    · rw [wI_ne (by omega), wI_at, pk_us]; rfl
  -- the reference begins
  obtain ⟨w1, a1, a2, a3, a4, a5⟩ := for_loop (L := f_X6_ring_L2 N) (n := 39) (fun j x => x.2 = um.2 ∧ (∀ c, c ≠ 1 → x.1 c = um.1 c) ∧ (∀ k, k < 240 → x.1 1 k = um.1 1 k) ∧ ∀ k, k < j → x.1 1 (240 + k) = nI 0)
    (fun q x _ => by
      show f_X6_ring_L2_B N _ _ _ = _
      unfold f_X6_ring_L2_B
      rw [if_pos (show (39 : Int32) ≤ nI 39 by decide)])
    (fun q x j hj hI => by
      refine ⟨wI x 1 (240 + j) (nI 0), ⟨hI.1, fun c hc => by rw [wI_ne hc]; exact hI.2.1 c hc, fun k hk => by rw [wI_at, pk_un (by omega)]; exact hI.2.2.1 k hk, fun k hk => ?_⟩, ?_⟩
      · rw [wI_at]
        by_cases e : k = j
        · subst e; rw [pk_us]
        · rw [pk_un (by omega)]; exact hI.2.2.2 k (by omega)
      · show f_X6_ring_L2_B N _ _ _ = _
        unfold f_X6_ring_L2_B
        rw [if_neg (show ¬ (39 : Int32) ≤ nI j from nI_ge (a := j) (b := 39) (by omega) (by omega)), show (240 : Int32) + nI j = nI (240 + j) from nI_add 240 j, og_nI (by omega) (by omega), nI_clamp (by omega), ol, show nI j + 1 = nI (j + 1) from nI_1 j]
        rfl)
    39 0 N um (by omega) (by omega) ⟨rfl, fun _ _ => rfl, fun _ _ => rfl, fun k hk => absurd hk (by omega)⟩
  obtain ⟨w2, b1, b2, b3, b4, b5⟩ := for_loop (L := f_X6_ring_L27 N) (n := 8) (fun j x => x.2 = um.2 ∧ (∀ c, c ≠ 1 → x.1 c = um.1 c) ∧ (∀ k, k < 240 → x.1 1 k = um.1 1 k) ∧ ∀ k, k < 5 → x.1 1 (240 + k) = nI 0)
    (fun q x _ => by
      show f_X6_ring_L27_B N _ _ _ = _
      unfold f_X6_ring_L27_B
      rw [if_pos (show (8 : Int32) ≤ nI 8 by decide)])
    (fun q x j hj hI => by
      refine ⟨wI x 1 (245 + j) (-4), ⟨hI.1, fun c hc => by rw [wI_ne hc]; exact hI.2.1 c hc, fun k hk => by rw [wI_at, pk_un (by omega)]; exact hI.2.2.1 k hk, fun k hk => by rw [wI_at, pk_un (by omega)]; exact hI.2.2.2 k hk⟩, ?_⟩
      show f_X6_ring_L27_B N _ _ _ = _
      unfold f_X6_ring_L27_B
      rw [if_neg (show ¬ (8 : Int32) ≤ nI j from nI_ge (a := j) (b := 8) (by omega) (by omega)), show (245 : Int32) + nI j = nI (245 + j) from nI_add 245 j, og_nI (by omega) (by omega), nI_clamp (by omega), ol, show nI j + 1 = nI (j + 1) from nI_1 j])
    8 0 N w1 (by omega) (by omega) ⟨a2, a3, a4, fun k hk => a5 k (by omega)⟩
  rw [show f_X6_ring_L2 N N um 0 = some w1 from a1, ob_s, show f_X6_ring_L27 N N w1 0 = some w2 from b1, ob_s, ol, ol]
  generalize hw0 : wI (wI w2 1 244 (w2.1 1 4)) 0 8 0 = w0
  have hM : pM um n w0 0 0 0 0 := by
    rw [← hw0]
    refine ⟨b2, fun c g1 g2 => by rw [wI_ne g1, wI_ne g2]; exact b3 c g2, ⟨?_, ?_, ?_⟩, fun k hk => ?_, ?_, ?_, ?_, ?_, ?_⟩
    · rw [wI_at, pk_un (by omega), wI_ne (by omega), b3 0 (by omega)]
    · rw [wI_at, pk_un (by omega), wI_ne (by omega), b3 0 (by omega)]; exact t2
    · rw [wI_at, pk_us]; rfl
    · rw [wI_ne (by omega), wI_at, pk_un (by omega)]; exact b4 k hk
    · rw [wI_ne (by omega), wI_at, pk_un (by omega)]; exact b5 0 (by omega)
    · rw [wI_ne (by omega), wI_at, pk_un (by omega)]; exact b5 1 (by omega)
    · rw [wI_ne (by omega), wI_at, pk_un (by omega)]; exact b5 2 (by omega)
    · rw [wI_ne (by omega), wI_at, pk_un (by omega)]; exact b5 3 (by omega)
    · rw [wI_ne (by omega), wI_at, pk_us]; exact b4 4 (by omega)
  have hX : pX u0 w0 0 0 0 := ⟨⟨by omega, by omega, by omega⟩, fun i hi => absurd hi (by omega), fun i hi => absurd hi (by omega), fun i hi => absurd hi (by omega)⟩
  obtain ⟨fl, u', w', s, a, f, t, e1, e2, e3, hs, ⟨c1, c2, ⟨c3, c4, c5, c6⟩, c7, c8, c9, c10⟩, ⟨m1, m2, ⟨m3, m4, m5⟩, m6, m7, m8, m9, m10, m11⟩, x1, x2, x3, x4⟩ := into_eq (N := N) hN hn t3 ⟨Nat.zero_le n, hC, hM, hX⟩
  unfold cEnd at e1
  rw [e1, e2, ob_s, ob_s]
  unfold f_X4_wipe
  rw [ol, ol, ol, ol, ol]
  dsimp only
  rcases e3 with e3 | e3
  · -- a fault
    have r8 : (wI w' 0 3 0).1 0 8 = nI s := by rw [wI_at, pk_un (by omega)]; exact m5
    rw [if_pos e3, if_pos e3, c4, r8]
    refine ⟨_, _, _, rfl, rfl, ?_⟩
    show RR (wI u' 31 1 0) (wI w' 0 3 0)
    refine ⟨rgR_same h.1 (fun c g1 g2 => by rw [wI_ne (by omega)]; exact c2 c (by omega) (by omega)) (fun k hk => by rw [wI_ne (by omega)]; exact m6 k (by omega)), imR_congr him (by rw [wI_ne (by omega), c2 0 (by omega) (by omega)]) (fun c g1 g2 => by rw [wI_ne (by omega)]; exact c2 c (by omega) (by omega)) (by rw [wI_at, pk_un (by omega)]; exact m3) (fun k g1 g2 => by rw [wI_ne (by omega)]; exact m6 k (by omega)), ⟨⟨sl2, hsl, by rw [wI_ne (by omega), c5]; exact esl⟩, 0, by omega, by rw [wI_at, pk_us]; rfl, by rw [wI_at, pk_us]; rfl, fun i hi => absurd hi (by omega)⟩, shR_congr hsh (by rw [wI_ne (by omega), c2 34 (by omega) (by omega)]) (by rw [wI_ne (by omega), c2 35 (by omega) (by omega)]) (by rw [wI_2, c1]) (by rw [wI_ne (by omega), m2 4 (by omega) (by omega)]) (by rw [wI_ne (by omega), m2 5 (by omega) (by omega)]) (by rw [wI_2, m1])⟩
  · rw [if_neg (show ¬ fl = 0 by rw [e3]; decide), if_neg (show ¬ fl = 0 by rw [e3]; decide)]
    have r10 : (wI u' 31 1 0).1 1 10 = um.1 1 4 := by rw [wI_ne (by omega), c2 1 (by omega) (by omega)]; exact hc.1.2.2.2.2.1
    rw [r10]
    generalize hu4 : wI (wI u' 31 1 0) 21 10 (um.1 1 4) = u4
    have u4o : ∀ c, c ≠ 21 → c ≠ 31 → u4.1 c = u'.1 c := fun c g1 g2 => by rw [← hu4, wI_ne g1, wI_ne g2]
    have u4i : ∀ j, j ≠ 10 → u4.1 21 j = u'.1 21 j := fun j hj => by rw [← hu4, wI_at, pk_un hj, wI_ne (by omega)]
    have u4d : u4.1 21 10 = um.1 1 4 := by rw [← hu4, wI_at, pk_us]
    have u4t : u4.1 31 1 = nI 0 := by rw [← hu4, wI_ne (by omega), wI_at, pk_us]; rfl
    have u42 : u4.2 = uc.2 := by rw [← hu4, wI_2, wI_2]; exact c1
    have hl := like_eq (b := 1) (e := 21) (u := u4) (by omega)
    generalize f_X1_becomeLike 1 21 u4 = u5 at hl
    obtain ⟨vm, q1, q2, q3, q4⟩ := bring_eq (N := N) (u := wI w' 0 3 0) (a := 240) (d := 0) (n := 39) (by omega) (by omega) (by omega) (by omega)
    rw [show f_X6_bring N (wI w' 0 3 0) 240 0 39 = some vm from q1, ob_s, ol]
    generalize hv : wI vm 1 39 0 = v
    have vr : ∀ k, k < 39 → v.1 1 k = w'.1 1 (240 + k) := fun k hk => by
      rw [← hv, wI_at, pk_un (by omega), q4, if_pos (by omega), wI_ne (by omega)]
      exact congrArg (w'.1 1) (by omega)
    have v39 : v.1 1 39 = nI 0 := by rw [← hv, wI_at, pk_us]; rfl
    have vhi : ∀ k, 40 ≤ k → k < 240 → v.1 1 k = um.1 1 k := fun k g1 g2 => by
      rw [← hv, wI_at, pk_un (by omega), q4, if_neg (by omega), wI_ne (by omega)]
      exact m6 k g2
    have vo : ∀ c, c ≠ 0 → c ≠ 1 → v.1 c = um.1 c := fun c g1 g2 => by rw [← hv, wI_ne g2, q3 c g2, wI_ne g1]; exact m2 c g1 g2
    have v03 : v.1 0 3 = nI 0 := by rw [← hv, wI_ne (by omega), q3 0 (by omega), wI_at, pk_us]; rfl
    have v01 : v.1 0 1 = um.1 0 1 := by rw [← hv, wI_ne (by omega), q3 0 (by omega), wI_at, pk_un (by omega)]; exact m3
    have v2 : v.2 = um.2 := by rw [← hv, wI_2, q2, wI_2]; exact m1
    have hok : okW (v.1 1) a f t 0 0 := by
      refine ⟨⟨by rw [vr 0 (by omega)]; exact m7, by rw [vr 1 (by omega)]; exact m8, by rw [vr 2 (by omega)]; exact m9, by rw [vr 3 (by omega)]; exact m10, v39⟩, ⟨x1.1, x1.2.1, x1.2.2, by omega, by omega⟩, by rw [vr 4 (by omega), m11]; exact hW.2.2.1, fun i hi => ?_, fun i hi => ?_, fun i hi => ?_, fun j hj => absurd hj (by omega)⟩
      · obtain ⟨p, y1, y2, y3⟩ := x2 i hi
        have := x1.1
        rw [vr (5 + i) (by omega), show 240 + (5 + i) = 245 + i by omega, y3]
        exact Or.inr ⟨p, y1, rfl⟩
      · obtain ⟨k, g, y1, y2, y3, y4, y5, y6, y7⟩ := x3 i hi
        have := x1.2.1
        rw [vr (13 + i) (by omega), show 240 + (13 + i) = 253 + i by omega, vr (18 + i) (by omega), show 240 + (18 + i) = 258 + i by omega]
        exact ⟨⟨k, y1, y5⟩, g, y2, y6⟩
      · obtain ⟨e, y1, y2, y3⟩ := x4 i hi
        have := x1.2.2
        rw [vr (23 + i) (by omega), show 240 + (23 + i) = 263 + i by omega]
        exact ⟨e, y1, y3⟩
    have hc21 : cR 21 u4 (v.1 1) a f t 0 sl2 := by
      refine ⟨⟨by rw [u4i 6 (by omega), c7, hok.1.1], by rw [u4i 7 (by omega), c8, hok.1.2.1], by rw [u4i 8 (by omega), c9, hok.1.2.2.1], by rw [u4i 9 (by omega), c10, hok.1.2.2.2.1], by rw [u4d, vr 4 (by omega), m11], by rw [u4o _ (by omega) (by omega), v39]; exact c6, by rw [u4o _ (by omega) (by omega)]; exact c5.trans esl, hsl⟩, fun i hi => ?_, fun i hi => ?_, fun i hi => ?_, fun j hj => absurd hj (by omega)⟩
      · obtain ⟨p, y1, y2, y3⟩ := x2 i hi
        have := x1.1
        rw [u4o _ (by omega) (by omega), vr (5 + i) (by omega), show 240 + (5 + i) = 245 + i by omega, y3]; exact y2
      · obtain ⟨k, g, y1, y2, y3, y4, y5, y6, y7⟩ := x3 i hi
        have := x1.2.1
        rw [u4o (21 + 2) (by omega) (by omega), u4o (21 + 3) (by omega) (by omega), u4o (21 + 4) (by omega) (by omega), vr (13 + i) (by omega), show 240 + (13 + i) = 253 + i by omega, vr (18 + i) (by omega), show 240 + (18 + i) = 258 + i by omega, y5, y6]
        exact ⟨y3, y4, y7⟩
      · obtain ⟨e, y1, y2, y3⟩ := x4 i hi
        have := x1.2.2
        rw [u4o _ (by omega) (by omega), vr (23 + i) (by omega), show 240 + (23 + i) = 263 + i by omega, y3]; exact y2
    have hc1 := LF_cR hok hl hc21
    have o := hl.2.1
    have ec : u5.1 1 6 = nI a := hc1.1.1.trans hok.1.1
    have em : v.1 1 0 = nI a := hok.1.1
    rw [ec, em]
    refine ⟨_, _, _, rfl, rfl, ?_⟩
    show RR u5 v
    refine ⟨⟨a, f, t, 0, 0, sl2, hok, hc1⟩, imR_congr him (by rw [o 0 (by omega), u4o 0 (by omega) (by omega), c2 0 (by omega) (by omega)]) (fun c g1 g2 => by rw [o c (by omega), u4o c (by omega) (by omega)]; exact c2 c (by omega) (by omega)) v01 (fun k g1 g2 => vhi k (by omega) g2), ⟨⟨sl2, hsl, by rw [o 27 (by omega), u4o 27 (by omega) (by omega), c5]; exact esl⟩, 0, by omega, by rw [o 31 (by omega)]; exact u4t, v03, fun i hi => absurd hi (by omega)⟩, shR_congr hsh (by rw [o 34 (by omega), u4o 34 (by omega) (by omega), c2 34 (by omega) (by omega)]) (by rw [o 35 (by omega), u4o 35 (by omega) (by omega), c2 35 (by omega) (by omega)]) (by rw [hl.1, u42]) (vo 4 (by omega) (by omega)) (vo 5 (by omega) (by omega)) (by rw [v2])⟩
