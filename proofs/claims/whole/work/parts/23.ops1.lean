/-! operations, the first: angel, figure, tune, hush, leads, at, type, seed -/
theorem lead_eq : ∀ k, k < 5 → ∀ f, f < 8 → ∀ p, p < 8 → f_X5_lead (nI k) (nI f) (nI p) = f_X6_leadsBy (nI k) (nI f) (nI p) := by decide +kernel
theorem leadsBy_lt : ∀ k, k < 5 → ∀ f, f < 8 → ∀ p, p < 8 → ∃ q, q < 8 ∧ f_X6_leadsBy (nI k) (nI f) (nI p) = nI q := by decide +kernel
theorem ok_angel {N : Nat} {uc um : zS} (hN : 100 ≤ N) (h : RR uc um) (a0 : Int32) : op_angel N RR uc um a0 := by
  unfold op_angel f_X5_angel f_X6_angel
  rw [isPlace_eq]
  rcases isPl a0 with h0 | ⟨p, hp, rfl, h1⟩
  · rw [if_pos h0, if_pos h0]; exact ⟨_, _, _, rfl, rfl, h⟩
  have h1n : ¬ f_X5_isPlace (nI p) = 0 := by rw [h1]; decide
  rw [if_neg h1n, if_neg h1n]
  obtain ⟨nA, nF, nT, nB, kn, sl, hW, hc⟩ := h.1
  have hW0 := hW
  obtain ⟨⟨a1, a2, a3, a4, a5⟩, ⟨b1, b2, b3, b4, b5⟩, c1, c2, c3, c4, c5⟩ := hW
  obtain ⟨⟨d1, d2, d3, d4, d5, d6, d7, d8⟩, e2, e3, e4, e5⟩ := hc
  rw [d1, a1, standing_eq hN (d1.trans a1) b1 e2, taken_eq hN a1 b1 c2, ob_s, ob_s]
  by_cases hf : nA = 8
  · subst hf
    rw [if_neg (show ¬ nI 8 < 8 by decide), if_pos (show nI 8 = 8 by decide)]; exact ⟨_, _, _, rfl, rfl, h⟩
  rw [if_pos (show nI nA < 8 from nI_lt (a := nA) (b := 8) (by omega) (by omega)), if_neg (show ¬ nI nA = 8 from fun q => hf ((nI_eq (a := nA) (b := 8) (by omega) (by omega)).mp q))]
  obtain ⟨m, hm, em⟩ := stF_lt c2
  rw [em, has_holds m hm p hp]
  rcases (holds01 (nI m) (nI p)).symm with hh | hh
  · have hn : ¬ f_X5_holds (nI m) (nI p) = 0 := by rw [hh]; decide
    rw [if_neg hn, if_neg hn]; exact ⟨_, _, _, rfl, rfl, h⟩
  rw [if_pos hh, if_pos hh]
  unfold f_X1_addAngel f_X0_forget
  simp only [ol]
  have e5' : (5 : Int32) + nI nA = nI (5 + nA) := nI_add 5 nA
  have r6 : (wI uc (1 + 6) 4 0).1 1 6 = nI nA := by rw [wI_ne (by omega), d1, a1]
  rw [r6, if_pos (show nI nA < 8 from nI_lt (a := nA) (b := 8) (by omega) (by omega)), og_nI (by omega) (by omega), nI_clamp (by omega), ob_s, e5', og_nI (by omega) (by omega), nI_clamp (by omega)]
  have r7 : (wI (wI uc (1 + 6) 4 0) (1 + 1) nA (nI p)).1 1 6 = nI nA := by rw [wI_ne (by omega), r6]
  have r8 : (wI um 1 (5 + nA) (nI p)).1 1 0 = nI nA := by rw [wI_at, pk_un (by omega), a1]
  rw [r7, r8]
  have r9 : (wI (wI (wI um 1 (5 + nA) (nI p)) 1 0 (nI nA + 1)) 1 39 0).1 1 0 = nI nA + 1 := by rw [wI_at, wI_at, pk_un (by omega), pk_us]
  have r10 : (wI (wI (wI uc (1 + 6) 4 0) (1 + 1) nA (nI p)) 1 6 (nI nA + 1)).1 1 6 = nI nA + 1 := by rw [wI_at, pk_us]
  rw [r9, r10]
  refine ⟨_, _, _, rfl, rfl, ?_⟩
  refine RR_now h ?_ (((FC_wI (by omega)).trans (FC_wI (by omega))).trans (FC_wI (by omega))) (((FM_wI (by omega)).trans (FM_wI (by omega))).trans (FM_wI (by omega)))
  refine ⟨nA + 1, nF, nT, nB, 0, sl, ?_, ?_⟩
  · have r : ∀ j, j ≠ 39 → j ≠ 0 → j ≠ 5 + nA → (wI (wI (wI um 1 (5 + nA) (nI p)) 1 0 (nI nA + 1)) 1 39 0).1 1 j = um.1 1 j := fun j g1 g2 g3 => by rw [wI_at, wI_at, wI_at, pk_un g1, pk_un g2, pk_un g3]
    refine ⟨⟨by rw [wI_at, wI_at, pk_un (by omega), pk_us]; exact nI_1 nA, by rw [r _ (by omega) (by omega) (by omega)]; exact a2, by rw [r _ (by omega) (by omega) (by omega)]; exact a3, by rw [r _ (by omega) (by omega) (by omega)]; exact a4, by rw [wI_at, pk_us]; rfl⟩, ⟨by omega, b2, b3, b4, by omega⟩, by rw [r _ (by omega) (by omega) (by omega)]; exact c1, fun i hi => ?_, fun i hi => ?_, fun i hi => ?_, fun j hj => absurd hj (by omega)⟩
    · by_cases hin : i = nA
      · subst hin
        rw [wI_at, wI_at, wI_at, pk_un (by omega), pk_un (by omega), pk_us]; exact Or.inr ⟨p, hp, rfl⟩
      · rw [r _ (by omega) (by omega) (by omega)]; exact c2 i (by omega)
    · rw [r _ (by omega) (by omega) (by omega), r _ (by omega) (by omega) (by omega)]; exact c3 i hi
    · rw [r _ (by omega) (by omega) (by omega)]; exact c4 i hi
  · have r : ∀ j, j ≠ 39 → j ≠ 0 → j ≠ 5 + nA → (wI (wI (wI um 1 (5 + nA) (nI p)) 1 0 (nI nA + 1)) 1 39 0).1 1 j = um.1 1 j := fun j g1 g2 g3 => by rw [wI_at, wI_at, wI_at, pk_un g1, pk_un g2, pk_un g3]
    have s : ∀ c j, c ≠ 7 → c ≠ 2 → ¬ (c = 1 ∧ j = 6) → (wI (wI (wI uc (1 + 6) 4 0) (1 + 1) nA (nI p)) 1 6 (nI nA + 1)).1 c j = uc.1 c j := fun c j g1 g2 g3 => by
      rw [wI_1, wI_1, wI_1, if_neg (show ¬ c = 1 + 1 from g2), if_neg (show ¬ c = 1 + 6 from g1)]
      by_cases hc1 : c = 1
      · rw [if_pos hc1, if_neg (fun q => g3 ⟨hc1, q⟩)]
      · rw [if_neg hc1]
    refine ⟨⟨?_, by rw [s _ _ (by omega) (by omega) (by omega), r _ (by omega) (by omega) (by omega)]; exact d2, by rw [s _ _ (by omega) (by omega) (by omega), r _ (by omega) (by omega) (by omega)]; exact d3, by rw [s _ _ (by omega) (by omega) (by omega), r _ (by omega) (by omega) (by omega)]; exact d4, by rw [s _ _ (by omega) (by omega) (by omega), r _ (by omega) (by omega) (by omega)]; exact d5, ?_, ?_, d8⟩, fun i hi => ?_, fun i hi => ?_, fun i hi => ?_, fun j hj => absurd hj (by omega)⟩
    · rw [wI_1, wI_at, wI_at, pk_un (by omega), pk_us]; rfl
    · rw [wI_at, pk_us]; rfl
    · rw [wI_ne (by omega), wI_ne (by omega), wI_at, pk_un (by omega)]; exact d7
    · by_cases hin : i = nA
      · subst hin
        rw [wI_ne (by omega), wI_at, pk_us, wI_at, wI_at, wI_at, pk_un (by omega), pk_un (by omega), pk_us]
      · rw [wI_ne (by omega), wI_at, pk_un hin, wI_ne (by omega), r _ (by omega) (by omega) (by omega)]; exact e2 i (by omega)
    · rw [r (13 + i) (by omega) (by omega) (by omega), r (18 + i) (by omega) (by omega) (by omega), s _ _ (by omega) (by omega) (by omega), s _ _ (by omega) (by omega) (by omega)]
      exact ⟨(e3 i hi).1, (e3 i hi).2.1, fun q hq => by rw [s _ _ (by omega) (by omega) (by omega)]; exact (e3 i hi).2.2 q hq⟩
    · rw [s _ _ (by omega) (by omega) (by omega), r _ (by omega) (by omega) (by omega)]; exact e4 i hi
theorem ok_hush {N : Nat} {uc um : zS} (h : RR uc um) : op_hush N RR uc um := by
  unfold op_hush f_X5_hush f_X6_hush f_X0_forget
  simp only [ol]
  obtain ⟨nA, nF, nT, nB, kn, sl, hW, hc⟩ := h.1
  obtain ⟨⟨a1, a2, a3, a4, a5⟩, ⟨b1, b2, b3, b4, b5⟩, c1, c2, c3, c4, c5⟩ := hW
  obtain ⟨⟨d1, d2, d3, d4, d5, d6, d7, d8⟩, e2, e3, e4, e5⟩ := hc
  have r8 : (wI uc (1 + 6) 4 0).1 1 8 = um.1 1 2 := by rw [wI_ne (by omega), d3]
  rw [r8]
  refine ⟨_, _, _, rfl, rfl, ?_⟩
  refine RR_now h ?_ ((FC_wI (by omega)).trans (FC_wI (by omega))) ((FM_wI (by omega)).trans (FM_wI (by omega)))
  have r : ∀ j, j ≠ 39 → j ≠ 2 → (wI (wI um 1 2 0) 1 39 0).1 1 j = um.1 1 j := fun j g1 g2 => by rw [wI_at, wI_at, pk_un g1, pk_un g2]
  have s : ∀ c j, c ≠ 7 → ¬ (c = 1 ∧ j = 8) → (wI (wI uc (1 + 6) 4 0) 1 8 0).1 c j = uc.1 c j := fun c j g1 g3 => by
    rw [wI_1, wI_1, if_neg (show ¬ c = 1 + 6 from g1)]
    by_cases hc1 : c = 1
    · rw [if_pos hc1, if_neg (fun q => g3 ⟨hc1, q⟩)]
    · rw [if_neg hc1]
  refine ⟨nA, nF, 0, nB, 0, sl, ?_, ?_⟩
  · refine ⟨⟨by rw [r _ (by omega) (by omega)]; exact a1, by rw [r _ (by omega) (by omega)]; exact a2, by rw [wI_at, wI_at, pk_un (by omega), pk_us]; rfl, by rw [r _ (by omega) (by omega)]; exact a4, by rw [wI_at, pk_us]; rfl⟩, ⟨b1, b2, by omega, b4, by omega⟩, by rw [r _ (by omega) (by omega)]; exact c1, fun i hi => by rw [r _ (by omega) (by omega)]; exact c2 i hi, fun i hi => by rw [r _ (by omega) (by omega), r _ (by omega) (by omega)]; exact c3 i hi, fun i hi => absurd hi (by omega), fun j hj => absurd hj (by omega)⟩
  · refine ⟨⟨by rw [s _ _ (by omega) (by omega), r _ (by omega) (by omega)]; exact d1, by rw [s _ _ (by omega) (by omega), r _ (by omega) (by omega)]; exact d2, ?_, by rw [s _ _ (by omega) (by omega), r _ (by omega) (by omega)]; exact d4, by rw [s _ _ (by omega) (by omega), r _ (by omega) (by omega)]; exact d5, ?_, ?_, d8⟩, fun i hi => by rw [s _ _ (by omega) (by omega), r _ (by omega) (by omega)]; exact e2 i hi, fun i hi => ?_, fun i hi => absurd hi (by omega), fun j hj => absurd hj (by omega)⟩
    · rw [wI_at, pk_us, wI_at, wI_at, pk_un (by omega), pk_us]
    · rw [wI_at, pk_us]; rfl
    · rw [wI_ne (by omega), wI_at, pk_un (by omega)]; exact d7
    · rw [r (13 + i) (by omega) (by omega), r (18 + i) (by omega) (by omega), s _ _ (by omega) (by omega), s _ _ (by omega) (by omega)]
      exact ⟨(e3 i hi).1, (e3 i hi).2.1, fun q hq => by rw [s _ _ (by omega) (by omega)]; exact (e3 i hi).2.2 q hq⟩
theorem ok_tune {N : Nat} {uc um : zS} (h : RR uc um) (a0 : Int32) : op_tune N RR uc um a0 := by
  unfold op_tune f_X5_tune f_X6_tune
  obtain ⟨nA, nF, nT, nB, kn, sl, hW, hc⟩ := h.1
  obtain ⟨⟨a1, a2, a3, a4, a5⟩, ⟨b1, b2, b3, b4, b5⟩, c1, c2, c3, c4, c5⟩ := hW
  obtain ⟨⟨d1, d2, d3, d4, d5, d6, d7, d8⟩, e2, e3, e4, e5⟩ := hc
  rw [isFigure_eq a2 (d2.trans a2) (by omega)]
  rcases hasF (d2.trans a2) (by omega) a0 with h0 | ⟨f, hf, rfl, h1⟩
  · rw [if_pos h0, if_pos h0]; exact ⟨_, _, _, rfl, rfl, h⟩
  have h1n : ¬ f_X1_hasFigure 1 uc (nI f) = 0 := by rw [h1]; decide
  rw [if_neg h1n, if_neg h1n, d3, a3]
  by_cases hft : nT = 16
  · subst hft
    rw [if_neg (show ¬ nI 16 < 16 by decide), if_pos (show nI 16 = 16 by decide)]; exact ⟨_, _, _, rfl, rfl, h⟩
  rw [if_pos (show nI nT < 16 from nI_lt (a := nT) (b := 16) (by omega) (by omega)), if_neg (show ¬ nI nT = 16 from fun q => hft ((nI_eq (a := nT) (b := 16) (by omega) (by omega)).mp q))]
  unfold f_X1_addToTune f_X0_forget
  simp only [ol]
  have e23 : (23 : Int32) + nI nT = nI (23 + nT) := nI_add 23 nT
  have r6 : (wI uc (1 + 6) 4 0).1 1 8 = nI nT := by rw [wI_ne (by omega), d3, a3]
  rw [r6, if_pos (show nI nT < 16 from nI_lt (a := nT) (b := 16) (by omega) (by omega)), og_nI (by omega) (by omega), nI_clamp (by omega), ob_s, e23, og_nI (by omega) (by omega), nI_clamp (by omega)]
  have r7 : (wI (wI uc (1 + 6) 4 0) (1 + 5) nT (nI f)).1 1 8 = nI nT := by rw [wI_ne (by omega), r6]
  have r8 : (wI um 1 (23 + nT) (nI f)).1 1 2 = nI nT := by rw [wI_at, pk_un (by omega), a3]
  rw [r7, r8]
  have r9 : (wI (wI (wI um 1 (23 + nT) (nI f)) 1 2 (nI nT + 1)) 1 39 0).1 1 2 = nI nT + 1 := by rw [wI_at, wI_at, pk_un (by omega), pk_us]
  have r10 : (wI (wI (wI uc (1 + 6) 4 0) (1 + 5) nT (nI f)) 1 8 (nI nT + 1)).1 1 8 = nI nT + 1 := by rw [wI_at, pk_us]
  rw [r9, r10]
  refine ⟨_, _, _, rfl, rfl, ?_⟩
  refine RR_now h ?_ (((FC_wI (by omega)).trans (FC_wI (by omega))).trans (FC_wI (by omega))) (((FM_wI (by omega)).trans (FM_wI (by omega))).trans (FM_wI (by omega)))
  have r : ∀ j, j ≠ 39 → j ≠ 2 → j ≠ 23 + nT → (wI (wI (wI um 1 (23 + nT) (nI f)) 1 2 (nI nT + 1)) 1 39 0).1 1 j = um.1 1 j := fun j g1 g2 g3 => by rw [wI_at, wI_at, wI_at, pk_un g1, pk_un g2, pk_un g3]
  have s : ∀ c j, c ≠ 7 → c ≠ 6 → ¬ (c = 1 ∧ j = 8) → (wI (wI (wI uc (1 + 6) 4 0) (1 + 5) nT (nI f)) 1 8 (nI nT + 1)).1 c j = uc.1 c j := fun c j g1 g2 g3 => by
    rw [wI_1, wI_1, wI_1, if_neg (show ¬ c = 1 + 5 from g2), if_neg (show ¬ c = 1 + 6 from g1)]
    by_cases hc1 : c = 1
    · rw [if_pos hc1, if_neg (fun q => g3 ⟨hc1, q⟩)]
    · rw [if_neg hc1]
  refine ⟨nA, nF, nT + 1, nB, 0, sl, ?_, ?_⟩
  · refine ⟨⟨by rw [r _ (by omega) (by omega) (by omega)]; exact a1, by rw [r _ (by omega) (by omega) (by omega)]; exact a2, by rw [wI_at, wI_at, pk_un (by omega), pk_us]; exact nI_1 nT, by rw [r _ (by omega) (by omega) (by omega)]; exact a4, by rw [wI_at, pk_us]; rfl⟩, ⟨b1, b2, by omega, b4, by omega⟩, by rw [r _ (by omega) (by omega) (by omega)]; exact c1, fun i hi => by rw [r _ (by omega) (by omega) (by omega)]; exact c2 i hi, fun i hi => by rw [r _ (by omega) (by omega) (by omega), r _ (by omega) (by omega) (by omega)]; exact c3 i hi, fun i hi => ?_, fun j hj => absurd hj (by omega)⟩
    by_cases hin : i = nT
    · subst hin
      rw [wI_at, wI_at, wI_at, pk_un (by omega), pk_un (by omega), pk_us]; exact ⟨f, hf, rfl⟩
    · rw [r _ (by omega) (by omega) (by omega)]; exact c4 i (by omega)
  · refine ⟨⟨by rw [s _ _ (by omega) (by omega) (by omega), r _ (by omega) (by omega) (by omega)]; exact d1, by rw [s _ _ (by omega) (by omega) (by omega), r _ (by omega) (by omega) (by omega)]; exact d2, ?_, by rw [s _ _ (by omega) (by omega) (by omega), r _ (by omega) (by omega) (by omega)]; exact d4, by rw [s _ _ (by omega) (by omega) (by omega), r _ (by omega) (by omega) (by omega)]; exact d5, ?_, ?_, d8⟩, fun i hi => by rw [s _ _ (by omega) (by omega) (by omega), r _ (by omega) (by omega) (by omega)]; exact e2 i hi, fun i hi => ?_, fun i hi => ?_, fun j hj => absurd hj (by omega)⟩
    · rw [wI_at, pk_us, wI_at, wI_at, pk_un (by omega), pk_us]
    · rw [wI_at, pk_us]; rfl
    · rw [wI_ne (by omega), wI_ne (by omega), wI_at, pk_un (by omega)]; exact d7
    · rw [r (13 + i) (by omega) (by omega) (by omega), r (18 + i) (by omega) (by omega) (by omega), s _ _ (by omega) (by omega) (by omega), s _ _ (by omega) (by omega) (by omega)]
      exact ⟨(e3 i hi).1, (e3 i hi).2.1, fun q hq => by rw [s _ _ (by omega) (by omega) (by omega)]; exact (e3 i hi).2.2 q hq⟩
    · by_cases hin : i = nT
      · subst hin
        rw [wI_ne (by omega), wI_at, pk_us, wI_at, wI_at, wI_at, pk_un (by omega), pk_un (by omega), pk_us]
      · rw [wI_ne (by omega), wI_at, pk_un hin, wI_ne (by omega), r _ (by omega) (by omega) (by omega)]; exact e4 i (by omega)
theorem ok_seed {N : Nat} {uc um : zS} (h : RR uc um) (a0 : Int32) : op_seed N RR uc um a0 := by
  unfold op_seed f_X5_seed f_X6_seed
  by_cases h0 : ¬ 0 ≤ a0
  · rw [if_neg h0, if_neg h0]; exact ⟨_, _, _, rfl, rfl, h⟩
  have h0 : 0 ≤ a0 := Classical.byContradiction h0
  rw [if_pos h0, if_pos h0]
  simp only [ol]
  obtain ⟨nA, nF, nT, nB, kn, sl, hW, hc⟩ := h.1
  obtain ⟨⟨a1, a2, a3, a4, a5⟩, ⟨b1, b2, b3, b4, b5⟩, c1, c2, c3, c4, c5⟩ := hW
  obtain ⟨⟨d1, d2, d3, d4, d5, d6, d7, d8⟩, e2, e3, e4, e5⟩ := hc
  rw [d5]
  refine ⟨_, _, _, rfl, rfl, ?_⟩
  refine RR_now h ?_ (FC_wI (by omega)) (FM_wI (by omega))
  have r : ∀ j, j ≠ 4 → (wI um 1 4 a0).1 1 j = um.1 1 j := fun j g1 => by rw [wI_at, pk_un g1]
  have s : ∀ c j, ¬ (c = 1 ∧ j = 10) → (wI uc 1 10 a0).1 c j = uc.1 c j := fun c j g3 => by
    rw [wI_1]
    by_cases hc1 : c = 1
    · rw [if_pos hc1, if_neg (fun q => g3 ⟨hc1, q⟩)]
    · rw [if_neg hc1]
  refine ⟨nA, nF, nT, nB, kn, sl, ?_, ?_⟩
  · refine ⟨⟨by rw [r _ (by omega)]; exact a1, by rw [r _ (by omega)]; exact a2, by rw [r _ (by omega)]; exact a3, by rw [r _ (by omega)]; exact a4, by rw [r _ (by omega)]; exact a5⟩, ⟨b1, b2, b3, b4, b5⟩, by rw [wI_at, pk_us]; exact h0, fun i hi => by rw [r _ (by omega)]; exact c2 i hi, fun i hi => by rw [r _ (by omega), r _ (by omega)]; exact c3 i hi, fun i hi => by rw [r _ (by omega)]; exact c4 i hi, fun j hj => by
      rw [r _ (by omega), r _ (by omega)]
      exact ⟨(c5 j hj).1, (c5 j hj).2.1, fun i hi => by rw [r _ (by omega)]; exact (c5 j hj).2.2 i hi⟩⟩
  · refine ⟨⟨by rw [s _ _ (by omega), r _ (by omega)]; exact d1, by rw [s _ _ (by omega), r _ (by omega)]; exact d2, by rw [s _ _ (by omega), r _ (by omega)]; exact d3, by rw [s _ _ (by omega), r _ (by omega)]; exact d4, by rw [wI_at, pk_us, wI_at, pk_us], by rw [s _ _ (by omega), r _ (by omega)]; exact d6, by rw [s _ _ (by omega)]; exact d7, d8⟩, fun i hi => by rw [s _ _ (by omega), r _ (by omega)]; exact e2 i hi, fun i hi => ?_, fun i hi => by rw [s _ _ (by omega), r _ (by omega)]; exact e4 i hi, fun j hj => ?_⟩
    · rw [r (13 + i) (by omega), r (18 + i) (by omega), s _ _ (by omega), s _ _ (by omega)]
      exact ⟨(e3 i hi).1, (e3 i hi).2.1, fun q hq => by rw [s _ _ (by omega)]; exact (e3 i hi).2.2 q hq⟩
    · rw [r (40 + 10 * j) (by omega), r (41 + 10 * j) (by omega), s _ _ (by omega), s _ _ (by omega)]
      exact ⟨(e5 j hj).1, (e5 j hj).2.1, fun i hi => by rw [r _ (by omega), s _ _ (by omega)]; exact (e5 j hj).2.2 i hi⟩
theorem ok_type {N : Nat} {uc um : zS} (h : RR uc um) (a0 : Int32) : op_type N RR uc um a0 := by
  unfold op_type f_X5_type f_X6_type
  rw [show f_X6_in a0.toInt64 32 126 = f_X5_within a0 32 126 from in_within a0 32 126]
  obtain ⟨hr, hi, ⟨t0, n, hn, t1, t2, t3⟩, hs⟩ := id h
  rcases wi a0 (lo := 32) (hi := 126) (by omega) (by omega) with h0 | ⟨k, _, _, rfl, h1⟩
  · rw [if_pos (show f_X5_within a0 32 126 = 0 from h0), if_pos (show f_X5_within a0 32 126 = 0 from h0)]; exact ⟨_, _, _, rfl, rfl, h⟩
  have h1n : ¬ f_X5_within (nI k) 32 126 = 0 := by rw [show f_X5_within (nI k) 32 126 = 1 from h1]; decide
  rw [if_neg h1n, if_neg h1n]
  unfold f_X4_isFull f_X4_put
  rw [t1, t2]
  by_cases hf : n = 60
  · subst hf
    rw [if_pos (show nI 60 = 60 from rfl)]
    exact ⟨_, _, _, rfl, rfl, h⟩
  have hlt : ¬ (60 : Int32) ≤ nI n := nI_ge (a := n) (b := 60) (by omega) (by omega)
  have hne : ¬ nI n = 60 := fun q => hf ((nI_eq (a := n) (b := 60) (by omega) (by omega)).mp q)
  have hlt2 : nI n < (60 : Int32) := nI_lt (a := n) (b := 60) (by omega) (by omega)
  simp only [if_neg hlt, if_neg hne, if_pos hlt2, ol, og_nI (show n < 60 by omega) (by omega : (60 : Nat) < 2 ^ 31), nI_clamp (show n < 2 ^ 31 by omega), ob_s, if_true]
  have r7 : (wI uc 32 n (nI k)).1 31 1 = nI n := by rw [wI_ne (by omega), t1]
  have r8 : (wI um 2 n (nI k)).1 0 3 = nI n := by rw [wI_ne (by omega), t2]
  rw [r7, r8]
  have r9 : (wI (wI uc 32 n (nI k)) 31 1 (nI n + 1)).1 31 1 = nI n + 1 := by rw [wI_at, pk_us]
  have r10 : (wI (wI um 2 n (nI k)) 0 3 (nI n + 1)).1 0 3 = nI n + 1 := by rw [wI_at, pk_us]
  rw [r9, r10]
  refine ⟨_, _, _, rfl, rfl, ?_⟩
  refine ⟨rgR_same hr (fun c g1 g2 => ?_) (fun k hk => ?_), imR_congr hi ?_ (fun c g1 g2 => ?_) ?_ (fun k g1 g2 => ?_), ⟨by rw [wI_ne (by omega), wI_ne (by omega)]; exact t0, n + 1, by omega, ?_, ?_, fun i hi2 => ?_⟩, shR_congr hs ?_ ?_ rfl ?_ ?_ rfl⟩
  · rw [wI_ne (by omega), wI_ne (by omega)]
  · rw [wI_ne (by omega), wI_ne (by omega)]
  · rw [wI_ne (by omega), wI_ne (by omega)]
  · rw [wI_ne (by omega), wI_ne (by omega)]
  · rw [wI_at, pk_un (by omega), wI_ne (by omega)]
  · rw [wI_ne (by omega), wI_ne (by omega)]
  · rw [wI_at, pk_us]; exact nI_1 n
  · rw [wI_at, pk_us]; exact nI_1 n
  · rw [show (wI (wI uc 32 n (nI k)) 31 1 (nI n + 1)).1 32 = upd (uc.1 32) n (nI k) from by rw [wI_ne (by omega), wI_at], show (wI (wI um 2 n (nI k)) 0 3 (nI n + 1)).1 2 = upd (um.1 2) n (nI k) from by rw [wI_ne (by omega), wI_at]]
    by_cases hin : i = n
    · subst hin; rw [pk_us, pk_us]
    · rw [pk_un hin, pk_un hin]; exact t3 i (by omega)
  · rw [wI_ne (by omega), wI_ne (by omega)]
  · rw [wI_ne (by omega), wI_ne (by omega)]
  · rw [wI_ne (by omega), wI_ne (by omega)]
  · rw [wI_ne (by omega), wI_ne (by omega)]
