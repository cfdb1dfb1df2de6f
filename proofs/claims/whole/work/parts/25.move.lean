/-! the angels move: blow, dance, beats, drift, draught, leave, come -/
theorem RG_move {uc um vc vm : zS} {nA nF nT nB kn sl nB2 : Nat} (h : RG uc um nA nF nT nB kn sl)
    (k1 : ∀ c, c ≠ 1 → c ≠ 2 → c ≤ 10 → vc.1 c = uc.1 c) (k2 : vc.1 1 6 = uc.1 1 6 ∧ vc.1 1 7 = uc.1 1 7 ∧ vc.1 1 8 = uc.1 1 8)
    (m1 : ∀ j, j < 120 → ¬ (3 ≤ j ∧ j < 13) → vm.1 1 j = um.1 1 j) (hb : vc.1 1 9 = vm.1 1 3 ∧ vm.1 1 3 = nI nB2 ∧ nB2 ≤ 9999) (hd : vc.1 1 10 = vm.1 1 4 ∧ 0 ≤ vm.1 1 4)
    (hp : ∀ i, i < nA → vc.1 2 i = vm.1 1 (5 + i) ∧ vP (vm.1 1 (5 + i))) : RG vc vm nA nF nT nB2 kn sl := by
  obtain ⟨⟨⟨a1, a2, a3, a4, a5⟩, ⟨b1, b2, b3, b4, b5⟩, c1, c2, c3, c4, c5⟩, ⟨⟨d1, d2, d3, d4, d5, d6, d7, d8⟩, e2, e3, e4, e5⟩⟩ := h
  refine ⟨⟨⟨by rw [m1 _ (by omega) (by omega)]; exact a1, by rw [m1 _ (by omega) (by omega)]; exact a2, by rw [m1 _ (by omega) (by omega)]; exact a3, hb.2.1, by rw [m1 _ (by omega) (by omega)]; exact a5⟩, ⟨b1, b2, b3, hb.2.2, b5⟩, hd.2, fun i hi => (hp i hi).2, fun i hi => by rw [m1 _ (by omega) (by omega), m1 _ (by omega) (by omega)]; exact c3 i hi, fun i hi => by rw [m1 _ (by omega) (by omega)]; exact c4 i hi, fun j hj => ?_⟩, ⟨⟨by rw [k2.1, m1 _ (by omega) (by omega)]; exact d1, by rw [k2.2.1, m1 _ (by omega) (by omega)]; exact d2, by rw [k2.2.2, m1 _ (by omega) (by omega)]; exact d3, hb.1, hd.1, by rw [k1 _ (by omega) (by omega) (by omega), m1 _ (by omega) (by omega)]; exact d6, by rw [k1 _ (by omega) (by omega) (by omega)]; exact d7, d8⟩, fun i hi => (hp i hi).1, fun i hi => ?_, fun i hi => by rw [k1 _ (by omega) (by omega) (by omega), m1 _ (by omega) (by omega)]; exact e4 i hi, fun j hj => ?_⟩⟩
  · rw [m1 _ (by omega) (by omega), m1 _ (by omega) (by omega)]
    exact ⟨(c5 j hj).1, (c5 j hj).2.1, fun i hi => by rw [m1 _ (by omega) (by omega)]; exact (c5 j hj).2.2 i hi⟩
  · rw [m1 (13 + i) (by omega) (by omega), m1 (18 + i) (by omega) (by omega), k1 _ (by omega) (by omega) (by omega), k1 _ (by omega) (by omega) (by omega), k1 _ (by omega) (by omega) (by omega)]
    exact e3 i hi
  · rw [m1 (40 + 10 * j) (by omega) (by omega), m1 (41 + 10 * j) (by omega) (by omega), k1 _ (by omega) (by omega) (by omega), k1 _ (by omega) (by omega) (by omega), k1 _ (by omega) (by omega) (by omega)]
    exact ⟨(e5 j hj).1, (e5 j hj).2.1, fun i hi => by rw [m1 _ (by omega) (by omega)]; exact (e5 j hj).2.2 i hi⟩
theorem RG.rg {uc um : zS} {nA nF nT nB kn sl : Nat} (h : RG uc um nA nF nT nB kn sl) : rgR uc um := ⟨nA, nF, nT, nB, kn, sl, h⟩
/-- both sets of places are one int -/
theorem RG_stand {N : Nat} {uc um : zS} {nA nF nT nB kn sl : Nat} (hN : 300 ≤ N) (h : RG uc um nA nF nT nB kn sl) : f_X1_standing N 1 uc = some (stF (um.1 1) nA) ∧ f_X6_taken N um = some (stF (um.1 1) nA) :=
  ⟨standing_eq (by omega) (h.2.1.1.trans h.1.1.1) h.1.2.1.1 h.2.2.1, taken_eq (by omega) h.1.1.1 h.1.2.1.1 h.1.2.2.2.1⟩
theorem ok_leave {N : Nat} {uc um : zS} (hN : 300 ≤ N) (h : RR uc um) (a0 : Int32) : op_leave N RR uc um a0 := by
  unfold op_leave f_X5_leave f_X6_leave
  obtain ⟨nA, nF, nT, nB, kn, sl, hG⟩ := h.1
  have hG : RG uc um nA nF nT nB kn sl := hG
  have a1 := hG.1.1.1
  have d1 := hG.2.1.1
  have b1 := hG.1.2.1.1
  rw [isAngel_eq a1 (d1.trans a1) (by omega)]
  rcases hasA (d1.trans a1) (by omega) a0 with h0 | ⟨i, hi, rfl, h1⟩
  · rw [if_pos h0, if_pos h0]; exact ⟨_, _, _, rfl, rfl, h⟩
  have h1n : ¬ f_X1_hasAngel 1 uc (nI i) = 0 := by rw [h1]; decide
  rw [if_neg h1n, if_neg h1n, show (5 : Int32) + nI i = nI (5 + i) from nI_add 5 i, og_nI (by omega) (by omega), og_nI (by omega) (by omega), nI_clamp (by omega), nI_clamp (by omega)]
  simp only [ol]
  have hpi : uc.1 2 i = um.1 1 (5 + i) := hG.2.2.1 i hi
  rw [hpi]
  by_cases h4 : um.1 1 (5 + i) = -4
  · rw [if_pos h4, if_pos h4]; exact ⟨_, _, _, rfl, rfl, h⟩
  rw [if_neg h4, if_neg h4]
  obtain ⟨vc, vm, p1, p2, p3, p4, p5, p6, p7, p8⟩ := RG_note hN hG
  rw [p1, p2, ob_s, ob_s, og_nI (by omega) (by omega), og_nI (by omega) (by omega)]
  refine ⟨_, _, _, rfl, rfl, ?_⟩
  refine RR_now h (RG.rg (RG_move p3 (nB2 := nB) (fun c g1 g2 g3 => wI_ne (by omega)) ⟨by rw [wI_ne (by omega)], by rw [wI_ne (by omega)], by rw [wI_ne (by omega)]⟩ (fun j g1 g2 => by rw [wI_at, pk_un (by omega)]) ⟨?_, ?_, hG.1.2.1.2.2.2.1⟩ ⟨?_, ?_⟩ (fun j hj => ?_))) (p4.trans (FC_wI (by omega))) (p5.trans (FM_wI (by omega)))
  · rw [wI_ne (by omega), wI_at, pk_un (by omega)]; exact p3.2.1.2.2.2.1
  · rw [wI_at, pk_un (by omega)]; exact p3.1.1.2.2.2.1
  · rw [wI_ne (by omega), wI_at, pk_un (by omega)]; exact p3.2.1.2.2.2.2.1
  · rw [wI_at, pk_un (by omega)]; exact p3.1.2.2.1
  · rw [wI_at, wI_at]
    by_cases hj2 : j = i
    · subst hj2; rw [pk_us, pk_us]; exact ⟨rfl, Or.inl rfl⟩
    · rw [pk_un hj2, pk_un (by omega)]; exact ⟨p3.2.2.1 j hj, p3.1.2.2.2.1 j hj⟩
/-- the ones of a set of eight -/
theorem ones_eq {N : Nat} (hN : 300 ≤ N) {m : Nat} (hm : m < 256) : f_X6_ones N (nI m) = some (f_J6_bitCount_0f7a4 (nI m)) := by
  obtain ⟨q, rfl⟩ : ∃ q, N = q + 9 := ⟨N - 9, by omega⟩
  have e : ∀ (M : Nat) (v0 : Int32), f_X6_ones_L4 M v0 (q + 9) 0 0 = some (((((((((0 + ((v0 >>> ((0 : Int32) &&& 31)) &&& 1)) + ((v0 >>> ((1 : Int32) &&& 31)) &&& 1)) + ((v0 >>> ((2 : Int32) &&& 31)) &&& 1)) + ((v0 >>> ((3 : Int32) &&& 31)) &&& 1)) + ((v0 >>> ((4 : Int32) &&& 31)) &&& 1)) + ((v0 >>> ((5 : Int32) &&& 31)) &&& 1)) + ((v0 >>> ((6 : Int32) &&& 31)) &&& 1)) + ((v0 >>> ((7 : Int32) &&& 31)) &&& 1))) := by
    intro M v0
    have st : ∀ (k : Nat) (a : Int32) (i j : Int32), ¬ (8 : Int32) ≤ i → i + 1 = j → f_X6_ones_L4 M v0 (k + 1) a i = f_X6_ones_L4 M v0 k (a + ((v0 >>> (i &&& 31)) &&& 1)) j := by
      intro k a i j h1 h2
      show f_X6_ones_L4_B M v0 _ _ _ = _
      unfold f_X6_ones_L4_B
      rw [if_neg h1, ol, h2]
    rw [st (q + 8) _ 0 1 (by decide) (by decide), st (q + 7) _ 1 2 (by decide) (by decide), st (q + 6) _ 2 3 (by decide) (by decide), st (q + 5) _ 3 4 (by decide) (by decide), st (q + 4) _ 4 5 (by decide) (by decide), st (q + 3) _ 5 6 (by decide) (by decide), st (q + 2) _ 6 7 (by decide) (by decide), st (q + 1) _ 7 8 (by decide) (by decide)]
    show f_X6_ones_L4_B M v0 _ _ _ = _
    unfold f_X6_ones_L4_B
    rw [if_pos (by decide)]
  unfold f_X6_ones
  rw [e, ob_s]
  have d : ∀ m, m < 256 → ((((((((0 + ((nI m >>> ((0 : Int32) &&& 31)) &&& 1)) + ((nI m >>> ((1 : Int32) &&& 31)) &&& 1)) + ((nI m >>> ((2 : Int32) &&& 31)) &&& 1)) + ((nI m >>> ((3 : Int32) &&& 31)) &&& 1)) + ((nI m >>> ((4 : Int32) &&& 31)) &&& 1)) + ((nI m >>> ((5 : Int32) &&& 31)) &&& 1)) + ((nI m >>> ((6 : Int32) &&& 31)) &&& 1)) + ((nI m >>> ((7 : Int32) &&& 31)) &&& 1)) = f_J6_bitCount_0f7a4 (nI m) := by decide +kernel
  rw [d m hm]
theorem ok_come {N : Nat} {uc um : zS} (hN : 300 ≤ N) (h : RR uc um) (a0 a1' : Int32) : op_come N RR uc um a0 a1' := by
  unfold op_come f_X5_come f_X6_come
  obtain ⟨nA, nF, nT, nB, kn, sl, hG⟩ := h.1
  have hG : RG uc um nA nF nT nB kn sl := hG
  have a1 := hG.1.1.1
  have d1 := hG.2.1.1
  have b1 := hG.1.2.1.1
  rw [isAngel_eq a1 (d1.trans a1) (by omega), isPlace_eq]
  rcases hasA (d1.trans a1) (by omega) a0 with h0 | ⟨i, hi, rfl, h1⟩
  · rw [if_pos h0, if_pos h0]; exact ⟨_, _, _, rfl, rfl, h⟩
  have h1n : ¬ f_X1_hasAngel 1 uc (nI i) = 0 := by rw [h1]; decide
  rw [if_neg h1n, if_neg h1n]
  rcases isPl a1' with h0 | ⟨p, hp, rfl, h2⟩
  · rw [if_pos h0, if_pos h0]; exact ⟨_, _, _, rfl, rfl, h⟩
  have h2n : ¬ f_X5_isPlace (nI p) = 0 := by rw [h2]; decide
  rw [if_neg h2n, if_neg h2n, show (5 : Int32) + nI i = nI (5 + i) from nI_add 5 i, og_nI (by omega) (by omega), og_nI (by omega) (by omega), nI_clamp (by omega), nI_clamp (by omega)]
  have hpi : uc.1 2 i = um.1 1 (5 + i) := hG.2.2.1 i hi
  rw [hpi]
  by_cases h4 : ¬ um.1 1 (5 + i) = -4
  · rw [if_neg h4, if_neg h4]; exact ⟨_, _, _, rfl, rfl, h⟩
  have h4 : um.1 1 (5 + i) = -4 := Classical.byContradiction h4
  obtain ⟨s1, s2⟩ := RG_stand hN hG
  rw [if_pos h4, if_pos h4, s1, s2, ob_s, ob_s]
  obtain ⟨m, hm, em⟩ := stF_lt hG.1.2.2.2.1
  rw [em, has_holds m hm p hp]
  rcases (holds01 (nI m) (nI p)).symm with hh | hh
  · have hn : ¬ f_X5_holds (nI m) (nI p) = 0 := by rw [hh]; decide
    rw [if_neg hn, if_neg hn]; exact ⟨_, _, _, rfl, rfl, h⟩
  rw [if_pos hh, if_pos hh]
  obtain ⟨vc, vm, p1, p2, p3, p4, p5, p6, p7, p8⟩ := RG_note hN hG
  rw [p1, p2, ob_s, ob_s, og_nI (by omega) (by omega), og_nI (by omega) (by omega)]
  simp only [ol]
  have hG2 : RG (wI vc 2 i (nI p)) (wI vm 1 (5 + i) (nI p)) nA nF nT nB (if kn < 8 then kn + 1 else 8) ((sl + 1) % 8) := by
    refine RG_move p3 (nB2 := nB) (fun c g1 g2 g3 => wI_ne (by omega)) ⟨by rw [wI_ne (by omega)], by rw [wI_ne (by omega)], by rw [wI_ne (by omega)]⟩ (fun j g1 g2 => by rw [wI_at, pk_un (by omega)]) ⟨?_, ?_, hG.1.2.1.2.2.2.1⟩ ⟨?_, ?_⟩ (fun j hj => ?_)
    · rw [wI_ne (by omega), wI_at, pk_un (by omega)]; exact p3.2.1.2.2.2.1
    · rw [wI_at, pk_un (by omega)]; exact p3.1.1.2.2.2.1
    · rw [wI_ne (by omega), wI_at, pk_un (by omega)]; exact p3.2.1.2.2.2.2.1
    · rw [wI_at, pk_un (by omega)]; exact p3.1.2.2.1
    · rw [wI_at, wI_at]
      by_cases hj2 : j = i
      · subst hj2; rw [pk_us, pk_us]; exact ⟨rfl, Or.inr ⟨p, hp, rfl⟩⟩
      · rw [pk_un hj2, pk_un (by omega)]; exact ⟨p3.2.2.1 j hj, p3.1.2.2.2.1 j hj⟩
  obtain ⟨t1, t2⟩ := RG_stand hN hG2
  rw [t1, t2, ob_s, ob_s]
  obtain ⟨m2, hm2, em2⟩ := stF_lt hG2.1.2.2.2.1
  rw [em2, ones_eq hN hm2, ob_s]
  refine ⟨_, _, _, rfl, rfl, ?_⟩
  exact RR_now h (RG.rg hG2) (p4.trans (FC_wI (by omega))) (p5.trans (FM_wI (by omega)))
/-- a draught's turn of one place -/
def bF (n x : Int32) : Int32 := if x = -4 then -4 else f_X5_leftBy8 (x + n)
theorem bF_ok : ∀ m, m < 8 → ∀ p, p < 8 → f_X5_leftBy8 (nI p + nI m) = nI ((p + m) % 8) ∧ ((nI p + nI m) - (nI p + nI m) / 8 * 8) = nI ((p + m) % 8) := by decide +kernel
theorem bF_vP {m : Nat} (hm : m < 8) {x : Int32} (h : vP x) : vP (bF (nI m) x) := by
  rcases h with rfl | ⟨p, hp, rfl⟩
  · exact Or.inl rfl
  · unfold bF
    rw [if_neg (nI_n4 (by omega)), (bF_ok m hm p hp).1]
    exact Or.inr ⟨_, by omega, rfl⟩
theorem blow_eq {N : Nat} {uc : zS} {nA m : Nat} (hN : 300 ≤ N) (h0 : uc.1 1 6 = nI nA) (hA : nA ≤ 8) : ∃ vc, f_X1_blow N 1 uc (nI m) = some vc ∧ vc.2 = uc.2 ∧ (∀ c, c ≠ 2 → vc.1 c = uc.1 c) ∧ ∀ j, vc.1 2 j = if j < nA then bF (nI m) (uc.1 2 j) else uc.1 2 j := by
  have key : ∀ (k i q : Nat) (w : zS), i + k = nA → k < q → w.2 = uc.2 → (∀ c, c ≠ 2 → w.1 c = uc.1 c) → (∀ j, w.1 2 j = if j < i then bF (nI m) (uc.1 2 j) else uc.1 2 j) → ∃ vc, f_X1_blow_L2 N 1 (nI m) q w (nI i) = some vc ∧ vc.2 = uc.2 ∧ (∀ c, c ≠ 2 → vc.1 c = uc.1 c) ∧ ∀ j, vc.1 2 j = if j < nA then bF (nI m) (uc.1 2 j) else uc.1 2 j := by
    intro k
    induction k with
    | zero =>
      intro i q w e1 e2 e3 e4 e5
      obtain ⟨q, rfl⟩ : ∃ z, q = z + 1 := ⟨q - 1, by omega⟩
      have : i = nA := by omega
      subst this
      refine ⟨w, ?_, e3, e4, e5⟩
      show f_X1_blow_L2_B N _ _ _ _ _ = _
      unfold f_X1_blow_L2_B
      rw [e4 1 (by omega), h0, if_pos (nI_le (Nat.le_refl _) (by omega))]
    | succ k ih =>
      intro i q w e1 e2 e3 e4 e5
      obtain ⟨q, rfl⟩ : ∃ z, q = z + 1 := ⟨q - 1, by omega⟩
      show ∃ v, f_X1_blow_L2_B N _ _ _ _ _ = _ ∧ _
      unfold f_X1_blow_L2_B
      rw [e4 1 (by omega), h0, if_neg (nI_ge (by omega) (by omega)), og_nI (by omega) (by omega), nI_clamp (by omega), show nI i + 1 = nI (i + 1) from nI_1 i]
      have e5i : w.1 (1 + 1) i = uc.1 2 i := by show w.1 2 i = _; rw [e5, if_neg (by omega)]
      rw [e5i]
      by_cases h4 : uc.1 2 i = -4
      · rw [if_pos h4]
        refine ih (i + 1) q w (by omega) (by omega) e3 e4 (fun j => ?_)
        by_cases hj : j = i
        · subst hj; rw [e5, if_neg (by omega), if_pos (by omega), bF, if_pos h4]; exact h4
        · rw [e5]
          by_cases hj2 : j < i
          · rw [if_pos hj2, if_pos (by omega)]
          · rw [if_neg hj2, if_neg (by omega)]
      · rw [if_neg h4, og_nI (by omega) (by omega), og_nI (by omega) (by omega), ol]
        refine ih (i + 1) q _ (by omega) (by omega) (by rw [wI_2]; exact e3) (fun c hc => by rw [wI_ne (by omega)]; exact e4 c hc) (fun j => ?_)
        show (wI w 2 i _).1 2 j = _
        rw [wI_at]
        by_cases hj : j = i
        · subst hj; rw [pk_us, if_pos (by omega), bF, if_neg h4]
        · rw [pk_un hj, e5]
          by_cases hj2 : j < i
          · rw [if_pos hj2, if_pos (by omega)]
          · rw [if_neg hj2, if_neg (by omega)]
  obtain ⟨v, h2, h3⟩ := key nA 0 N uc (by omega) (by omega) rfl (fun _ _ => rfl) (fun j => by rw [if_neg (by omega)])
  refine ⟨v, ?_, h3⟩
  unfold f_X1_blow
  rw [show (0 : Int32) = nI 0 from rfl, h2]
  rfl
theorem blows_eq {N : Nat} {um : zS} {nA m : Nat} (hN : 300 ≤ N) (hm : m < 8) (h0 : um.1 1 0 = nI nA) (hA : nA ≤ 8) (hv : ∀ i, i < nA → vP (um.1 1 (5 + i))) : ∃ vm, f_X6_blows N um (nI m) = some vm ∧ vm.2 = um.2 ∧ (∀ c, c ≠ 1 → vm.1 c = um.1 c) ∧ ∀ j, vm.1 1 j = if 5 ≤ j ∧ j < 5 + nA then bF (nI m) (um.1 1 j) else um.1 1 j := by
  have key : ∀ (k i q : Nat) (w : zS), i + k = nA → k < q → w.2 = um.2 → (∀ c, c ≠ 1 → w.1 c = um.1 c) → (∀ j, w.1 1 j = if 5 ≤ j ∧ j < 5 + i then bF (nI m) (um.1 1 j) else um.1 1 j) → ∃ vm, f_X6_blows_L2 N (nI m) q w (nI i) = some vm ∧ vm.2 = um.2 ∧ (∀ c, c ≠ 1 → vm.1 c = um.1 c) ∧ ∀ j, vm.1 1 j = if 5 ≤ j ∧ j < 5 + nA then bF (nI m) (um.1 1 j) else um.1 1 j := by
    intro k
    induction k with
    | zero =>
      intro i q w e1 e2 e3 e4 e5
      obtain ⟨q, rfl⟩ : ∃ z, q = z + 1 := ⟨q - 1, by omega⟩
      have : i = nA := by omega
      subst this
      refine ⟨w, ?_, e3, e4, e5⟩
      show f_X6_blows_L2_B N _ _ _ _ = _
      unfold f_X6_blows_L2_B
      have w0 : w.1 1 0 = nI i := by rw [e5, if_neg (by omega), h0]
      rw [w0, if_pos (nI_le (Nat.le_refl _) (by omega))]
    | succ k ih =>
      intro i q w e1 e2 e3 e4 e5
      obtain ⟨q, rfl⟩ : ∃ z, q = z + 1 := ⟨q - 1, by omega⟩
      show ∃ v, f_X6_blows_L2_B N _ _ _ _ = _ ∧ _
      unfold f_X6_blows_L2_B
      have w0 : w.1 1 0 = nI nA := by rw [e5, if_neg (by omega), h0]
      have wi5 : w.1 1 (5 + i) = um.1 1 (5 + i) := by rw [e5, if_neg (by omega)]
      rw [w0, if_neg (nI_ge (by omega) (by omega)), show (5 : Int32) + nI i = nI (5 + i) from nI_add 5 i, og_nI (by omega) (by omega), nI_clamp (by omega), show nI i + 1 = nI (i + 1) from nI_1 i, wi5]
      have fin : ∀ x, x = bF (nI m) (um.1 1 (5 + i)) → ∃ vm, f_X6_blows_L2 N (nI m) q (wI w 1 (5 + i) x) (nI (i + 1)) = some vm ∧ vm.2 = um.2 ∧ (∀ c, c ≠ 1 → vm.1 c = um.1 c) ∧ ∀ j, vm.1 1 j = if 5 ≤ j ∧ j < 5 + nA then bF (nI m) (um.1 1 j) else um.1 1 j := by
        intro x hx
        refine ih (i + 1) q _ (by omega) (by omega) (by rw [wI_2]; exact e3) (fun c hc => by rw [wI_ne (by omega)]; exact e4 c hc) (fun j => ?_)
        rw [wI_at]
        by_cases hj : j = 5 + i
        · subst hj; rw [pk_us, if_pos (by omega)]; exact hx
        · rw [pk_un hj, e5]
          by_cases hj2 : 5 ≤ j ∧ j < 5 + i
          · rw [if_pos hj2, if_pos (by omega)]
          · rw [if_neg hj2, if_neg (by omega)]
      by_cases h4 : um.1 1 (5 + i) = -4
      · rw [if_pos h4, og_nI (by omega) (by omega), ol]
        exact fin _ (by rw [bF, if_pos h4])
      · rw [if_neg h4, og_nI (by omega) (by omega), og_nI (by omega) (by omega), ol]
        refine fin _ ?_
        rcases hv i (by omega) with h5 | ⟨p, hp, h5⟩
        · exact absurd h5 h4
        · rw [h5, bF, if_neg (nI_n4 (by omega)), (bF_ok m hm p hp).1, (bF_ok m hm p hp).2]
  obtain ⟨v, h2, h3⟩ := key nA 0 N um (by omega) (by omega) rfl (fun _ _ => rfl) (fun j => by rw [if_neg (by omega)])
  refine ⟨v, ?_, h3⟩
  unfold f_X6_blows
  rw [show (0 : Int32) = nI 0 from rfl, h2]
  rfl
theorem RG_blow {N : Nat} {uc um : zS} {nA nF nT nB kn sl m : Nat} (hN : 300 ≤ N) (hm : m < 8) (h : RG uc um nA nF nT nB kn sl) : ∃ vc vm, f_X1_blow N 1 uc (nI m) = some vc ∧ f_X6_blows N um (nI m) = some vm ∧ RG vc vm nA nF nT nB kn sl ∧ FC uc vc ∧ FM um vm := by
  obtain ⟨vc, p1, p2, p3, p4⟩ := blow_eq (m := m) hN (h.2.1.1.trans h.1.1.1) h.1.2.1.1
  obtain ⟨vm, q1, q2, q3, q4⟩ := blows_eq (m := m) hN hm h.1.1.1 h.1.2.1.1 h.1.2.2.2.1
  have b1 := h.1.2.1.1
  refine ⟨vc, vm, p1, q1, RG_move h (nB2 := nB) (fun c g1 g2 g3 => p3 c g2) ⟨by rw [p3 1 (by omega)], by rw [p3 1 (by omega)], by rw [p3 1 (by omega)]⟩ (fun j g1 g2 => by rw [q4, if_neg (by omega)]) ⟨by rw [p3 1 (by omega), q4, if_neg (by omega)]; exact h.2.1.2.2.2.1, by rw [q4, if_neg (by omega)]; exact h.1.1.2.2.2.1, h.1.2.1.2.2.2.1⟩ ⟨by rw [p3 1 (by omega), q4, if_neg (by omega)]; exact h.2.1.2.2.2.2.1, by rw [q4, if_neg (by omega)]; exact h.1.2.2.1⟩ (fun i hi => ?_), ⟨p3 0 (by omega), fun c g1 g2 => p3 c (by omega), p3 31 (by omega), p3 32 (by omega), p3 34 (by omega), p3 35 (by omega), by rw [p2]⟩, ⟨by rw [q3 0 (by omega)], by rw [q3 0 (by omega)], q3 2 (by omega), q3 4 (by omega), q3 5 (by omega), by rw [q2], fun k g1 g2 => by rw [q4, if_neg (by omega)]⟩⟩
  have e := h.2.2.1 i hi
  rw [p4, if_pos hi, q4, if_pos (by omega)]
  exact ⟨congrArg (bF (nI m)) e, bF_vP hm (h.1.2.2.2.1 i hi)⟩
theorem ok_draught {N : Nat} {uc um : zS} (hN : 300 ≤ N) (h : RR uc um) (a0 : Int32) : op_draught N RR uc um a0 := by
  unfold op_draught f_X5_draught f_X6_draught
  rw [show f_X6_in a0.toInt64 1 7 = f_X5_within a0 1 7 from in_within a0 1 7]
  rcases wi a0 (lo := 1) (hi := 7) (by omega) (by omega) with h0 | ⟨m, _, hm, rfl, h1⟩
  · rw [if_pos (show f_X5_within a0 1 7 = 0 from h0), if_pos (show f_X5_within a0 1 7 = 0 from h0)]; exact ⟨_, _, _, rfl, rfl, h⟩
  have h1n : ¬ f_X5_within (nI m) 1 7 = 0 := by rw [show f_X5_within (nI m) 1 7 = 1 from h1]; decide
  rw [if_neg h1n, if_neg h1n]
  obtain ⟨nA, nF, nT, nB, kn, sl, hG⟩ := h.1
  have hG : RG uc um nA nF nT nB kn sl := hG
  obtain ⟨vc, vm, p1, p2, p3, p4, p5, -⟩ := RG_note hN hG
  obtain ⟨wc, wm, q1, q2, q3, q4, q5⟩ := RG_blow (m := m) hN (by omega) p3
  obtain ⟨t1, t2⟩ := RG_stand hN q3
  rw [p1, p2, ob_s, ob_s, q1, q2, ob_s, ob_s, t1, t2]
  exact ⟨_, _, _, rfl, rfl, RR_now h (RG.rg q3) (p4.trans q4) (p5.trans q5)⟩
