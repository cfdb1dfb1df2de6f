/-! drift, undo, image, restore -/
/-- the next draw, as the class and as the reference make it -/
def drC (x : Int32) : Int32 := Int64.toInt32 ((((Int32.toInt64 x) * 1103515245) + 12345) &&& 2147483647)
def drM (x : Int32) : Int32 := Int64.toInt32 ((((Int32.toInt64 x) * 1103515245) + 12345) - (((Int32.toInt64 x) * 1103515245) + 12345) / 2147483648 * 2147483648)
theorem drw {k : Nat} (hk : k < 2 ^ 31) : ∃ d, d < 2 ^ 31 ∧ drC (nI k) = nI d ∧ drM (nI k) = nI d := by
  unfold drC drM
  refine ⟨(k * 1103515245 + 12345) % 2 ^ 31, Nat.mod_lt _ (by decide), ?_, ?_⟩
  · rw [nI_l hk, show (1103515245 : Int64) = lN 1103515245 from rfl, show (12345 : Int64) = lN 12345 from rfl, show (2147483647 : Int64) = lN (2 ^ 31 - 1) from rfl, lN_mul, lN_add, fb_maskL, lN_i]
  · rw [nI_l hk, show (1103515245 : Int64) = lN 1103515245 from rfl, show (12345 : Int64) = lN 12345 from rfl, show (2147483648 : Int64) = lN (2 ^ 31) from rfl, lN_mul, lN_add, pk_lRem (by omega) (by omega) (by omega), lN_i]
theorem draw_def (N : Nat) (u : zS) : f_X1_drawAndBlow N 1 u = (olet (wI u 1 10 (drC (u.1 1 10))) fun u1 => (if (((u1.1 1 10) / 65536) - ((u1.1 1 10) / 65536) / 4 * 4) = 0 then (ob (f_X1_blow N 1 u1 (1 + (((u1.1 1 10) / 128) - ((u1.1 1 10) / 128) / 7 * 7))) fun r3 => some r3) else some u1)) := by unfold f_X1_drawAndBlow drC; rfl
theorem eb128 {d : Nat} (hd : d < 2 ^ 31) : (1 : Int32) + (nI d / 128 - nI d / 128 / 7 * 7) = nI (1 + d / 128 % 7) := by
  rw [show nI d / 128 = nI (d / 128) from pk_div (a := d) (d := 128) hd (by omega) (by omega), show nI (d / 128) - nI (d / 128) / 7 * 7 = nI (d / 128 % 7) from pk_rem (a := d / 128) (d := 7) (by omega) (by omega) (by omega)]
  exact nI_add 1 _
theorem RG_draw {N : Nat} {uc um : zS} {nA nF nT nB kn sl : Nat} (hN : 300 ≤ N) (h : RG uc um nA nF nT nB kn sl) : ∃ vc vm, f_X1_drawAndBlow N 1 uc = some vc ∧ RG vc vm nA nF nT nB kn sl ∧ FC uc vc ∧ FM um vm ∧ ∃ d, d < 2 ^ 31 ∧ drM (um.1 1 4) = nI d ∧ (((nI d / 65536 - nI d / 65536 / 4 * 4) = 0 ∧ f_X6_blows N (wI um 1 4 (nI d)) (nI (1 + d / 128 % 7)) = some vm) ∨ (¬ (nI d / 65536 - nI d / 65536 / 4 * 4) = 0 ∧ vm = wI um 1 4 (nI d))) := by
  have c1 := h.1.2.2.1
  obtain ⟨k, hk, ek⟩ := nI_of (x := um.1 1 4) (fun q => absurd c1 (by rw [fa_le, Int.not_le]; rw [fa_lt] at q; exact q))
  obtain ⟨d, hd, e1, e2⟩ := drw hk
  have d5 : uc.1 1 10 = um.1 1 4 := h.2.1.2.2.2.2.1
  rw [draw_def, ol, d5, ek, e1]
  have r10 : (wI uc 1 10 (nI d)).1 1 10 = nI d := by rw [wI_at, pk_us]
  have r4 : (wI um 1 4 (nI d)).1 1 4 = nI d := by rw [wI_at, pk_us]
  have hG : RG (wI uc 1 10 (nI d)) (wI um 1 4 (nI d)) nA nF nT nB kn sl := by
    refine RG_move h (nB2 := nB) (fun c g1 g2 g3 => wI_ne g1) ⟨by rw [wI_at, pk_un (by omega)], by rw [wI_at, pk_un (by omega)], by rw [wI_at, pk_un (by omega)]⟩ (fun j g1 g2 => by rw [wI_at, pk_un (by omega)]) ⟨by rw [wI_at, wI_at, pk_un (by omega), pk_un (by omega)]; exact h.2.1.2.2.2.1, by rw [wI_at, pk_un (by omega)]; exact h.1.1.2.2.2.1, h.1.2.1.2.2.2.1⟩ ⟨by rw [r10, r4], by rw [r4]; exact nI_pos' hd⟩ (fun i hi => ?_)
    rw [wI_ne (by omega), wI_at, pk_un (by omega)]
    exact ⟨h.2.2.1 i hi, h.1.2.2.2.1 i hi⟩
  rw [r10, eb128 hd]
  by_cases hz : (nI d / 65536 - nI d / 65536 / 4 * 4) = 0
  · obtain ⟨wc, wm, q1, q2, q3, q4, q5⟩ := RG_blow (m := 1 + d / 128 % 7) hN (by omega) hG
    rw [if_pos hz, q1, ob_s]
    refine ⟨wc, wm, rfl, q3, (FC_wI (by omega)).trans q4, (FM_wI (by omega)).trans q5, d, hd, e2, Or.inl ⟨hz, q2⟩⟩
  · rw [if_neg hz]
    refine ⟨_, _, rfl, hG, FC_wI (by omega), FM_wI (by omega), d, hd, e2, Or.inr ⟨hz, rfl⟩⟩
theorem ok_drift {N : Nat} {uc um : zS} (hN : 300 ≤ N) (h : RR uc um) (a0 : Int32) : op_drift N RR uc um a0 := by
  unfold op_drift f_X5_drift f_X6_drift
  obtain ⟨nA, nF, nT, nB, kn, sl, hG⟩ := h.1
  have hG : RG uc um nA nF nT nB kn sl := hG
  rw [show f_X6_in a0.toInt64 1 40 = f_X5_within a0 1 40 from in_within a0 1 40, ol, hG.1.1.2.2.2.1]
  rcases ref_beats (hG.2.1.2.2.2.1.trans hG.1.1.2.2.2.1) hG.1.2.1.2.2.2.1 a0 with ⟨h0, h1⟩ | ⟨n, hn, rfl, h0, ⟨h1, h2, h3⟩ | ⟨h2, h3⟩⟩
  · rw [h1, if_neg (show ¬ (0 : Int32) ≤ -1 by decide), if_pos h0]; exact ⟨_, _, _, rfl, rfl, h⟩
  · rw [h3, if_pos (show (0 : Int32) ≤ 0 by decide), if_neg h0, if_pos h2]
    have key : ∀ (k i q q2 nB kn sl : Nat) (uc um : zS), i + k = n → k < q → k < q2 → nB + k ≤ 9999 → RG uc um nA nF nT nB kn sl → ∃ vc vm nB2 kn2 sl2, f_X5_drift_L14 N (nI n) q uc (nI i) = some vc ∧ f_X6_drift_L33 N (nI n) q2 um (nI i) = some vm ∧ RG vc vm nA nF nT nB2 kn2 sl2 ∧ FC uc vc ∧ FM um vm := by
      intro k
      induction k with
      | zero =>
        intro i q q2 nB kn sl uc um e1 e2 e3 e4 hG
        obtain ⟨q, rfl⟩ : ∃ z, q = z + 1 := ⟨q - 1, by omega⟩
        obtain ⟨q2, rfl⟩ : ∃ z, q2 = z + 1 := ⟨q2 - 1, by omega⟩
        have : i = n := by omega
        subst this
        refine ⟨uc, um, nB, kn, sl, ?_, ?_, hG, FC.rfl', FM.rfl'⟩
        · show f_X5_drift_L14_B N _ _ _ _ = _
          unfold f_X5_drift_L14_B
          rw [if_pos (nI_le (Nat.le_refl _) (by omega))]
        · show f_X6_drift_L33_B N _ _ _ _ = _
          unfold f_X6_drift_L33_B
          rw [if_pos (nI_le (Nat.le_refl _) (by omega))]
      | succ k ih =>
        intro i q q2 nB kn sl uc um e1 e2 e3 e4 hG
        obtain ⟨q, rfl⟩ : ∃ z, q = z + 1 := ⟨q - 1, by omega⟩
        obtain ⟨q2, rfl⟩ : ∃ z, q2 = z + 1 := ⟨q2 - 1, by omega⟩
        obtain ⟨vc, vm, p1, p2, p3, p4, p5, -⟩ := RG_note hN hG
        obtain ⟨yc, ym, y1, y2, y3, y4, y5⟩ := RG_draw hN p3
        obtain ⟨wc, wm, r1, r2, r3, r4, r5⟩ := RG_dance hN (by omega) y2
        obtain ⟨xc, xm, nB2, kn2, sl2, t1, t2, t3, t4, t5⟩ := ih (i + 1) q q2 _ _ _ wc wm (by omega) (by omega) (by omega) (by omega) r3
        refine ⟨xc, xm, nB2, kn2, sl2, ?_, ?_, t3, ((p4.trans y3).trans r4).trans t4, ((p5.trans y4).trans r5).trans t5⟩
        · show f_X5_drift_L14_B N _ _ _ _ = _
          unfold f_X5_drift_L14_B
          rw [if_neg (nI_ge (by omega) (by omega)), p1, ob_s, y1, ob_s, r1, ob_s, show nI i + 1 = nI (i + 1) from nI_1 i]; exact t1
        · show f_X6_drift_L33_B N _ _ _ _ = _
          unfold f_X6_drift_L33_B
          obtain ⟨d, hd, z1, z2⟩ := y5
          unfold drM at z1
          rw [if_neg (nI_ge (by omega) (by omega)), p2, ob_s, ol, z1]
          have r4 : (wI vm 1 4 (nI d)).1 1 4 = nI d := by rw [wI_at, pk_us]
          rw [r4, eb128 hd]
          rcases z2 with ⟨z3, z4⟩ | ⟨z3, z4⟩
          · rw [if_pos z3, z4, ob_s, r2, ob_s, show nI i + 1 = nI (i + 1) from nI_1 i]; exact t2
          rw [if_neg z3, ← z4, r2, ob_s, show nI i + 1 = nI (i + 1) from nI_1 i]; exact t2
    obtain ⟨vc, vm, nB2, kn2, sl2, t1, t2, t3, t4, t5⟩ := key n 0 N N nB kn sl uc um (by omega) (by omega) (by omega) (by omega) hG
    obtain ⟨s1, s2⟩ := RG_stand hN t3
    rw [show f_X5_drift_L14 N (nI n) N uc 0 = some vc from t1, show f_X6_drift_L33 N (nI n) N um 0 = some vm from t2, ob_s, ob_s, s1, s2]
    exact ⟨_, _, _, rfl, rfl, RR_now h (RG.rg t3) t4 t5⟩
  · rw [h3, if_neg (show ¬ (0 : Int32) ≤ -3 by decide), if_neg h0, if_neg h2]; exact ⟨_, _, _, rfl, rfl, h⟩
theorem ok_undo {N : Nat} {uc um : zS} (hN : 300 ≤ N) (h : RR uc um) : op_undo N RR uc um := by
  unfold op_undo f_X5_undo f_X6_undo
  obtain ⟨nA, nF, nT, nB, kn, sl, hG⟩ := h.1
  obtain ⟨⟨⟨a1, a2, a3, a4, a5⟩, ⟨b1, b2, b3, b4, b5⟩, c1, c2, c3, c4, c5⟩, ⟨⟨d1, d2, d3, d4, d5, d6, d7, d8⟩, e2, e3, e4, e5⟩⟩ := hG
  have d6 : uc.1 7 4 = um.1 1 39 := d6
  have d7 : uc.1 7 3 = nI sl := d7
  rw [d6, a5]
  by_cases hk0 : kn = 0
  · subst hk0
    rw [if_neg (show ¬ (0 : Int32) < nI 0 by decide), if_pos (show nI 0 = (0 : Int32) by decide)]; exact ⟨_, _, _, rfl, rfl, h⟩
  rw [if_pos (show (0 : Int32) < nI kn from nI_lt (a := 0) (by omega) (by omega)), if_neg (show ¬ nI kn = 0 from nI_ne0 (by omega) (by omega))]
  have ek : nI kn - 1 = nI (kn - 1) := pk_sub (b := 1) (by omega)
  rw [ek]
  -- the reference
  rw [ol]
  have m39 : (wI um 1 39 (nI (kn - 1))).1 1 39 = nI (kn - 1) := by rw [wI_at, pk_us]
  rw [m39, show (10 : Int32) * nI (kn - 1) = nI (10 * (kn - 1)) from pk_mul 10 _, show (40 : Int32) + nI (10 * (kn - 1)) = nI (40 + 10 * (kn - 1)) from nI_add 40 _]
  obtain ⟨vm, q1, q2, q3, q4⟩ := bring_eq (N := N) (u := wI um 1 39 (nI (kn - 1))) (a := 40 + 10 * (kn - 1)) (d := 3) (n := 10) (by omega) (by omega) (by omega) (by omega)
  rw [show f_X6_bring N (wI um 1 39 (nI (kn - 1))) (nI (40 + 10 * (kn - 1))) 3 10 = some vm from q1, ob_s]
  have M : ∀ k, k ≠ 39 → vm.1 1 k = if 3 ≤ k ∧ k < 13 then um.1 1 (40 + 10 * (kn - 1) + (k - 3)) else um.1 1 k := by
    intro k hk
    rw [q4]
    by_cases hk2 : 3 ≤ k ∧ k < 13
    · rw [if_pos (by omega), if_pos hk2, wI_at, pk_un (by omega)]
    · rw [if_neg (by omega), if_neg hk2, wI_at, pk_un hk]
  have M39 : vm.1 1 39 = nI (kn - 1) := by rw [q4, if_neg (by omega)]; exact m39
  -- the class
  unfold f_X0_bringBack
  simp only [ol]
  have esl : uc.1 (1 + 6) 3 + 8 - 1 - (uc.1 (1 + 6) 3 + 8 - 1) / 8 * 8 = nI ((sl + 7) % 8) := by
    rw [show uc.1 (1 + 6) 3 = nI sl from d7, show nI sl + 8 = nI (sl + 8) from nI_add sl 8, show nI (sl + 8) - 1 = nI (sl + 7) from pk_sub (a := sl + 8) (b := 1) (by omega)]
    exact pk_rem (a := sl + 7) (d := 8) (by omega) (by omega) (by omega)
  rw [esl]
  generalize hS : (sl + 7) % 8 = S
  have hS8 : S < 8 := by omega
  have k4 : (wI uc (1 + 6) 3 (nI S)).1 (1 + 6) 4 = nI kn := by rw [wI_at, pk_un (by omega)]; exact d6.trans a5
  rw [k4, ek]
  generalize hu2 : wI (wI uc (1 + 6) 3 (nI S)) (1 + 6) 4 (nI (kn - 1)) = u2
  have u27 : u2.1 (1 + 6) 3 = nI S := by rw [← hu2, wI_at, pk_un (by omega), wI_at, pk_us]
  have u2o : ∀ c, c ≠ 7 → u2.1 c = uc.1 c := fun c hc => by rw [← hu2, wI_ne (by omega), wI_ne (by omega)]
  rw [u27, show nI S * 8 = nI (S * 8) from pk_mul S 8, show og (cpB (nI (S * 8)) 0 8 64 8) = og (cpB (nI (S * 8)) (nI 0) (nI 8) 64 8) (α := zS) from rfl, og_cpN (by omega) (by omega) (by omega) (by omega), nI_clamp (by omega)]
  generalize hu4 : cpI u2 (1 + 7) (S * 8) (1 + 1) 0 8 = u4
  have u4o : ∀ c, c ≠ 2 → u4.1 c = u2.1 c := fun c hc => by rw [← hu4]; funext j; rw [cpI_1, if_neg (by omega)]
  rw [u4o (1 + 6) (by omega), u27, og_nI (by omega) (by omega), nI_clamp (by omega), u4o (1 + 8) (by omega), u2o (1 + 8) (by omega)]
  generalize hu6 : wI u4 1 9 (uc.1 (1 + 8) S) = u6
  have u6o : ∀ c, c ≠ 1 → u6.1 c = u4.1 c := fun c hc => by rw [← hu6, wI_ne hc]
  rw [u6o (1 + 6) (by omega), u4o (1 + 6) (by omega), u27, og_nI (by omega) (by omega), nI_clamp (by omega), ob_s, u6o (1 + 9) (by omega), u4o (1 + 9) (by omega), u2o (1 + 9) (by omega)]
  generalize hvc : wI u6 1 10 (uc.1 (1 + 9) S) = vc
  have vo : ∀ c, c ≠ 1 → c ≠ 2 → c ≠ 7 → vc.1 c = uc.1 c := fun c g1 g2 g3 => by rw [← hvc, wI_ne g1, u6o c g1, u4o c g2, u2o c g3]
  have v7 : vc.1 7 = u2.1 7 := by rw [← hvc, wI_ne (by omega), u6o 7 (by omega), u4o 7 (by omega)]
  have v74 : vc.1 7 4 = nI (kn - 1) := by rw [v7, ← hu2]; show (wI _ 7 4 _).1 7 4 = _; rw [wI_at, pk_us]
  have v73 : vc.1 7 3 = nI S := by rw [v7]; exact u27
  have v1 : ∀ j, j ≠ 9 → j ≠ 10 → vc.1 1 j = uc.1 1 j := fun j g1 g2 => by rw [← hvc, wI_at, pk_un g2, ← hu6, wI_at, pk_un g1, u4o 1 (by omega), u2o 1 (by omega)]
  have v19 : vc.1 1 9 = uc.1 9 S := by rw [← hvc, wI_at, pk_un (by omega), ← hu6, wI_at, pk_us]
  have v110 : vc.1 1 10 = uc.1 10 S := by rw [← hvc, wI_at, pk_us]
  have v2 : ∀ i, i < 8 → vc.1 2 i = uc.1 8 (8 * S + i) := fun i hi => by
    rw [← hvc, wI_ne (by omega), u6o 2 (by omega), ← hu4]
    show (cpI u2 8 (S * 8) 2 0 8).1 2 i = _
    rw [cpI_1, if_pos rfl, if_pos (by omega), u2o 8 (by omega)]
    exact congrArg (uc.1 8) (by omega)
  have vz : vc.2 = uc.2 := by rw [← hvc, wI_2, ← hu6, wI_2, ← hu4, cpI_2, ← hu2, wI_2, wI_2]
  rw [v74, M39]
  refine ⟨_, _, _, rfl, rfl, ?_⟩
  have hlast := e5 (kn - 1) (by omega)
  rw [show (sl + 8 - kn + (kn - 1)) % 8 = S by omega] at hlast
  obtain ⟨⟨nB2, hB2, eB2⟩, x2, x3⟩ := c5 (kn - 1) (by omega)
  refine RR_now h ⟨nA, nF, nT, nB2, kn - 1, S, ?_, ?_⟩ ⟨vo 0 (by omega) (by omega) (by omega), fun c g1 g2 => vo c (by omega) (by omega) (by omega), vo 31 (by omega) (by omega) (by omega), vo 32 (by omega) (by omega) (by omega), vo 34 (by omega) (by omega) (by omega), vo 35 (by omega) (by omega) (by omega), by rw [vz]⟩ ⟨by rw [q3 0 (by omega), wI_ne (by omega)], by rw [q3 0 (by omega), wI_ne (by omega)], by rw [q3 2 (by omega), wI_ne (by omega)], by rw [q3 4 (by omega), wI_ne (by omega)], by rw [q3 5 (by omega), wI_ne (by omega)], by rw [q2, wI_2], fun k g1 g2 => by rw [M k (by omega), if_neg (by omega)]⟩
  · refine ⟨⟨by rw [M _ (by omega), if_neg (by omega)]; exact a1, by rw [M _ (by omega), if_neg (by omega)]; exact a2, by rw [M _ (by omega), if_neg (by omega)]; exact a3, ?_, M39⟩, ⟨b1, b2, b3, hB2, by omega⟩, ?_, fun i hi => ?_, fun i hi => by rw [M _ (by omega), if_neg (by omega), M _ (by omega), if_neg (by omega)]; exact c3 i hi, fun i hi => by rw [M _ (by omega), if_neg (by omega)]; exact c4 i hi, fun j hj => ?_⟩
    · rw [M _ (by omega), if_pos (by omega)]; exact eB2
    · rw [M _ (by omega), if_pos (by omega), show 40 + 10 * (kn - 1) + (4 - 3) = 41 + 10 * (kn - 1) by omega]; exact x2
    · rw [M _ (by omega), if_pos (by omega), show 40 + 10 * (kn - 1) + (5 + i - 3) = 42 + 10 * (kn - 1) + i by omega]; exact x3 i hi
    · rw [M _ (by omega), if_neg (by omega), M _ (by omega), if_neg (by omega)]
      exact ⟨(c5 j (by omega)).1, (c5 j (by omega)).2.1, fun i hi => by rw [M _ (by omega), if_neg (by omega)]; exact (c5 j (by omega)).2.2 i hi⟩
  · refine ⟨⟨by rw [v1 _ (by omega) (by omega), M _ (by omega), if_neg (by omega)]; exact d1, by rw [v1 _ (by omega) (by omega), M _ (by omega), if_neg (by omega)]; exact d2, by rw [v1 _ (by omega) (by omega), M _ (by omega), if_neg (by omega)]; exact d3, ?_, ?_, by rw [M39]; exact v74, v73, hS8⟩, fun i hi => ?_, fun i hi => ?_, fun i hi => by rw [M _ (by omega), if_neg (by omega), vo _ (by omega) (by omega) (by omega)]; exact e4 i hi, fun j hj => ?_⟩
    · rw [v19, M _ (by omega), if_pos (by omega)]; exact hlast.1
    · rw [v110, M _ (by omega), if_pos (by omega), show 40 + 10 * (kn - 1) + (4 - 3) = 41 + 10 * (kn - 1) by omega]; exact hlast.2.1
    · show vc.1 2 i = _
      rw [v2 i (by omega), M _ (by omega), if_pos (by omega), show 40 + 10 * (kn - 1) + (5 + i - 3) = 42 + 10 * (kn - 1) + i by omega]; exact hlast.2.2 i hi
    · rw [M (13 + i) (by omega), if_neg (by omega), M (18 + i) (by omega), if_neg (by omega), vo _ (by omega) (by omega) (by omega), vo _ (by omega) (by omega) (by omega), vo _ (by omega) (by omega) (by omega)]
      exact e3 i hi
    · have := e5 j (by omega)
      rw [show (S + 8 - (kn - 1) + j) % 8 = (sl + 8 - kn + j) % 8 by omega, M (40 + 10 * j) (by omega), if_neg (by omega), M (41 + 10 * j) (by omega), if_neg (by omega), vo _ (by omega) (by omega) (by omega), vo _ (by omega) (by omega) (by omega), vo _ (by omega) (by omega) (by omega)]
      exact ⟨this.1, this.2.1, fun i hi => by rw [M _ (by omega), if_neg (by omega)]; exact this.2.2 i hi⟩
