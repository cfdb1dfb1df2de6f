/-! steps -/
theorem told2_eq {N : Nat} {uc um : zS} {nA nF nT nB kn p s j n sz : Nat} (hN : 300 ≤ N) (ho : okW (um.1 1) nA nF nT nB kn) (hT : cT 21 uc (um.1 1) nF nT) (h9 : uc.1 21 9 = nI nB) (hs : s < 4) (hp : p < 8) (hn : n ≤ 8) (hz : sz ≤ 24) (t7 : ∀ i, i < sz → uc.2 36 (24 * s + i) = um.2 3 (24 * s + i)) (hj : j + n ≤ sz) (v1 v7 v9 v10 v11 v12 : Int32) : ∃ r, (r = 0 ∨ r = 1) ∧ (os (f_X5_goesAsTold_L11 N uc (nI s) (nI j) (nI n) N (nI p) 0) (fun q8 => some q8) fun q7 => some 1) = some r ∧ f_X6_steps_L162 N um v1 (nI s) (nI j) (nI n) v7 v9 v10 v11 v12 N 1 (nI p) 0 = some r := by
  have hB := ho.2.1.2.2.2.1
  have key : ∀ (k t q q2 p : Nat), t + k = n → k < q → k + 1 < q2 → p < 8 → (f_X5_goesAsTold_L11 N uc (nI s) (nI j) (nI n) q (nI p) (nI t) = some (.inr ()) ∧ f_X6_steps_L162 N um v1 (nI s) (nI j) (nI n) v7 v9 v10 v11 v12 q2 1 (nI p) (nI t) = some 1) ∨ (f_X5_goesAsTold_L11 N uc (nI s) (nI j) (nI n) q (nI p) (nI t) = some (.inl 0) ∧ f_X6_steps_L162 N um v1 (nI s) (nI j) (nI n) v7 v9 v10 v11 v12 q2 1 (nI p) (nI t) = some 0) := by
    intro k
    induction k with
    | zero =>
      intro t q q2 p w1 w2 w3 hp
      obtain ⟨q, rfl⟩ : ∃ z, q = z + 1 := ⟨q - 1, by omega⟩
      obtain ⟨q2, rfl⟩ : ∃ z, q2 = z + 1 := ⟨q2 - 1, by omega⟩
      have : t = n := by omega
      subst this
      left
      constructor
      · show f_X5_goesAsTold_L11_B N _ _ _ _ _ _ _ = _
        unfold f_X5_goesAsTold_L11_B
        rw [if_pos (nI_le (Nat.le_refl _) (by omega))]
      · show f_X6_steps_L162_B N _ _ _ _ _ _ _ _ _ _ _ _ _ _ = _
        unfold f_X6_steps_L162_B
        rw [if_pos (nI_le (Nat.le_refl _) (by omega))]
    | succ k ih =>
      intro t q q2 p w1 w2 w3 hp
      obtain ⟨q, rfl⟩ : ∃ z, q = z + 1 := ⟨q - 1, by omega⟩
      obtain ⟨q2, rfl⟩ : ∃ z, q2 = z + 1 := ⟨q2 - 1, by omega⟩
      have hv : vP (nI p) := Or.inr ⟨p, hp, rfl⟩
      obtain ⟨p2, hp2, ep2⟩ : ∃ p2, p2 < 8 ∧ gS (um.1 1) nT (nB + t) (nI p) = nI p2 := by
        rcases gS_vP ho (nB + t) hv with e | e
        · exfalso
          have : gS (um.1 1) nT (nB + t) (nI p) = wk (um.1 1) nT (nB + t) 1 (nI p) := rfl
          obtain ⟨z, hz, ez⟩ := wk_place ho (nB + t) hp 1
          rw [this, ez] at e
          exact nI_n4 (by omega) e
        · exact e
      have nx := ih (t + 1) q q2 p2 (by omega) (by omega) (by omega) hp2
      have eC : f_X5_goesAsTold_L11 N uc (nI s) (nI j) (nI n) (q + 1) (nI p) (nI t) = if uc.2 36 (24 * s + (j + t)) = Int32.toInt64 (nI p2) then f_X5_goesAsTold_L11 N uc (nI s) (nI j) (nI n) q (nI p2) (nI (t + 1)) else some (.inl 0) := by
        show f_X5_goesAsTold_L11_B N _ _ _ _ _ _ _ = _
        unfold f_X5_goesAsTold_L11_B
        rw [if_neg (nI_ge (by omega) (by omega)), h9, nI_add, goesOn_eq ho hT (by omega) hv, ob_s, nI_add, itemOf_eq (by omega), ob_s, ep2, show nI t + 1 = nI (t + 1) from nI_1 t]
        by_cases hc : uc.2 36 (24 * s + (j + t)) = Int32.toInt64 (nI p2)
        · rw [if_pos ((lgeq _ _).mpr hc), if_pos hc]
        · rw [if_neg (fun z => hc ((lgeq _ _).mp z)), if_neg hc]
      have eJ : f_X6_steps_J218 N um v1 (nI s) (nI j) (nI n) v7 v9 v10 v11 v12 (f_X6_steps_L162 N um v1 (nI s) (nI j) (nI n) v7 v9 v10 v11 v12 q2) (nI t) (nI p2) = if uc.2 36 (24 * s + (j + t)) = Int32.toInt64 (nI p2) then f_X6_steps_L162 N um v1 (nI s) (nI j) (nI n) v7 v9 v10 v11 v12 q2 1 (nI p2) (nI (t + 1)) else f_X6_steps_L162 N um v1 (nI s) (nI j) (nI n) v7 v9 v10 v11 v12 q2 0 (nI p2) (nI (t + 1)) := by
        unfold f_X6_steps_J218
        rw [show (24 : Int32) * nI s = nI (24 * s) from pk_mul 24 s, nI_add, nI_add, og_nI (by omega) (by omega), nI_clamp (by omega), show 24 * s + j + t = 24 * s + (j + t) by omega, ← t7 (j + t) (by omega), show nI t + 1 = nI (t + 1) from nI_1 t]
        by_cases hc : uc.2 36 (24 * s + (j + t)) = Int32.toInt64 (nI p2)
        · rw [if_pos ((lgeq _ _).mpr hc.symm), if_pos hc]
        · rw [if_neg (fun z => hc ((lgeq _ _).mp z).symm), if_neg hc]
      have eM : f_X6_steps_L162 N um v1 (nI s) (nI j) (nI n) v7 v9 v10 v11 v12 (q2 + 1) 1 (nI p) (nI t) = if uc.2 36 (24 * s + (j + t)) = Int32.toInt64 (nI p2) then f_X6_steps_L162 N um v1 (nI s) (nI j) (nI n) v7 v9 v10 v11 v12 q2 1 (nI p2) (nI (t + 1)) else f_X6_steps_L162 N um v1 (nI s) (nI j) (nI n) v7 v9 v10 v11 v12 q2 0 (nI p2) (nI (t + 1)) := by
        rw [← eJ]
        show f_X6_steps_L162_B N _ _ _ _ _ _ _ _ _ _ _ _ _ _ = _
        unfold f_X6_steps_L162_B
        rw [if_neg (nI_ge (by omega) (by omega)), if_neg (show ¬ (1 : Int32) = 0 by decide), ho.1.2.2.1, ho.1.2.2.2.1]
        by_cases h0 : nT = 0
        · rw [if_pos (show nI nT = (0 : Int32) by rw [h0]; decide)]
          have : gS (um.1 1) nT (nB + t) (nI p) = nI p := by unfold gS; rw [if_pos h0]
          rw [← ep2, this]
        · rw [if_neg (show ¬ nI nT = (0 : Int32) from nI_ne0 (by omega) (by have := ho.2.1.2.2.1; omega)), nI_add, tuneAt ho (by omega) (by omega) hp, ep2]
      rw [eC, eM]
      by_cases hc : uc.2 36 (24 * s + (j + t)) = Int32.toInt64 (nI p2)
      · rw [if_pos hc, if_pos hc]; exact nx
      · right
        rw [if_neg hc, if_neg hc]
        refine ⟨rfl, ?_⟩
        obtain ⟨q2, rfl⟩ : ∃ z, q2 = z + 1 := ⟨q2 - 1, by omega⟩
        show f_X6_steps_L162_B N _ _ _ _ _ _ _ _ _ _ _ _ _ _ = _
        unfold f_X6_steps_L162_B
        by_cases hz : nI n ≤ nI (t + 1)
        · rw [if_pos hz]
        · rw [if_neg hz, if_pos rfl]
  rcases key n 0 N N p (by omega) (by omega) (by omega) hp with ⟨k1, k2⟩ | ⟨k1, k2⟩
  · exact ⟨1, Or.inr rfl, by rw [show f_X5_goesAsTold_L11 N uc (nI s) (nI j) (nI n) N (nI p) 0 = _ from k1]; rfl, k2⟩
  · exact ⟨0, Or.inl rfl, by rw [show f_X5_goesAsTold_L11 N uc (nI s) (nI j) (nI n) N (nI p) 0 = _ from k1]; rfl, k2⟩
def sC (uc um : zS) (f nF nT nB : Nat) (u : zS) : Prop := u.2 = uc.2 ∧ (∀ c, ¬ (21 ≤ c ∧ c ≤ 30) → u.1 c = uc.1 c) ∧ u.1 21 8 = nI nT ∧ u.1 21 9 = nI nB ∧ (∀ i, i < 8 → u.1 22 i = uc.1 2 i) ∧ (∀ i, i < nT → u.1 26 i = um.1 1 (23 + i)) ∧ ∀ g, g < nF → g ≠ f → ∀ p, p < 8 → u.1 25 (8 * g + p) = f_X6_leadsBy (um.1 1 (13 + g)) (um.1 1 (18 + g)) (nI p)
def sl27 (u : zS) : Prop := ∃ sl, sl < 8 ∧ u.1 27 3 = nI sl
def sM (um : zS) (idx : Nat) (w : zS) : Prop := w.2 = um.2 ∧ (∀ c, c ≠ 1 → w.1 c = um.1 c) ∧ ∀ j, j ≠ idx → w.1 1 j = um.1 1 j
theorem one_eq {N : Nat} {uc um u w : zS} {nA nF nT nB kn f p i s j n sz idx k g : Nat} (hN : 300 ≤ N) (ho : okW (um.1 1) nA nF nT nB kn) (hf : f < nF) (hs : s < 4) (hp : p < 8) (hn : n ≤ 8) (hz : sz ≤ 24) (t7 : ∀ i, i < sz → uc.2 36 (24 * s + i) = um.2 3 (24 * s + i)) (hj : j + n ≤ sz) (hi : i < nA) (hpl : uc.1 2 i = nI p) (hu : sC uc um f nF nT nB u) (hw : sM um idx w) (hidx : idx = 13 + f ∨ idx = 18 + f) (hk : k < 5) (hg : g < 8) {x : Int32} (e1 : (wI w 1 idx x).1 1 (13 + f) = nI k) (e2 : (wI w 1 idx x).1 1 (18 + f) = nI g) (v1 v7 v9 v10 v11 v12 : Int32) : ∃ u2 r, f_X1_tell N 21 u (nI f) (nI k) (nI g) = some u2 ∧ (sC uc um f nF nT nB u2 ∧ u2.1 27 = u.1 27) ∧ (r = 0 ∨ r = 1) ∧ f_X5_goesAsTold N u2 (nI i) (nI s) (nI j) (nI n) = some r ∧ f_X6_steps_L162 N (wI w 1 idx x) v1 (nI s) (nI j) (nI n) v7 v9 v10 v11 v12 N 1 (nI p) 0 = some r := by
  have hF := ho.2.1.2.1
  have hA := ho.2.1.1
  have hTT := ho.2.1.2.2.1
  obtain ⟨u2, p1, p2, p3, p4, p5, p6⟩ := tell_eq (N := N) (b := 21) (u := u) (f := f) (k := k) (g := g) hN (by omega) hk hg
  obtain ⟨s1, s2, s3, s4, s5, s6, s7⟩ := hu
  obtain ⟨m1, m2, m3⟩ := hw
  have same : ∀ z, z ≠ 13 + f → z ≠ 18 + f → (wI w 1 idx x).1 1 z = um.1 1 z := fun z z1 z2 => by rw [wI_at, pk_un (by omega), m3 z (by omega)]
  have hc2 : sC uc um f nF nT nB u2 := by
    refine ⟨p2.trans s1, fun c hc => by rw [p3 c (by omega) (by omega) (by omega)]; exact s2 c hc, by rw [p3 21 (by omega) (by omega) (by omega)]; exact s3, by rw [p3 21 (by omega) (by omega) (by omega)]; exact s4, fun z hz => by rw [p3 22 (by omega) (by omega) (by omega)]; exact s5 z hz, fun z hz => by rw [p3 26 (by omega) (by omega) (by omega)]; exact s6 z hz, fun z hz hzf y hy => ?_⟩
    have := p6 (8 * z + y)
    rw [show u2.1 25 (8 * z + y) = _ from this, if_neg (by omega)]
    exact s7 z hz hzf y hy
  have how : okW ((wI w 1 idx x).1 1) nA nF nT nB kn := by
    obtain ⟨⟨a1, a2, a3, a4, a5⟩, ⟨b1, b2, b3, b4, b5⟩, c1, c2, c3, c4, c5⟩ := ho
    refine ⟨⟨by rw [same _ (by omega) (by omega)]; exact a1, by rw [same _ (by omega) (by omega)]; exact a2, by rw [same _ (by omega) (by omega)]; exact a3, by rw [same _ (by omega) (by omega)]; exact a4, by rw [same _ (by omega) (by omega)]; exact a5⟩, ⟨b1, b2, b3, b4, b5⟩, by rw [same _ (by omega) (by omega)]; exact c1, fun z hz => by rw [same _ (by omega) (by omega)]; exact c2 z hz, fun z hz => ?_, fun z hz => by rw [same _ (by omega) (by omega)]; exact c4 z hz, fun z hz => ?_⟩
    · by_cases hzf : z = f
      · subst hzf
        rw [e1, e2]; exact ⟨⟨k, hk, rfl⟩, g, hg, rfl⟩
      · rw [same _ (by omega) (by omega), same _ (by omega) (by omega)]; exact c3 z hz
    · rw [same _ (by omega) (by omega), same _ (by omega) (by omega)]
      exact ⟨(c5 z hz).1, (c5 z hz).2.1, fun y hy => by rw [same _ (by omega) (by omega)]; exact (c5 z hz).2.2 y hy⟩
  have hct : cT 21 u2 ((wI w 1 idx x).1 1) nF nT := by
    refine ⟨by rw [hc2.2.2.1, how.1.2.2.1], fun z hz y hy => ?_, fun z hz => by rw [same _ (by omega) (by omega)]; exact hc2.2.2.2.2.2.1 z hz⟩
    by_cases hzf : z = f
    · subst hzf
      rw [e1, e2, p6, if_pos (by omega), show 8 * z + y - 8 * z = y by omega]
    · rw [same _ (by omega) (by omega), same _ (by omega) (by omega)]
      exact hc2.2.2.2.2.2.2 z hz hzf y hy
  obtain ⟨r, hr, q1, q2⟩ := told2_eq (N := N) (uc := u2) (um := wI w 1 idx x) hN how hct hc2.2.2.2.1 hs hp hn hz (fun z hz => by rw [hc2.1, wI_2, m1]; exact t7 z hz) hj v1 v7 v9 v10 v11 v12
  refine ⟨u2, r, p1, ⟨hc2, p3 27 (by omega) (by omega) (by omega)⟩, hr, ?_, q2⟩
  unfold f_X5_goesAsTold
  rw [og_nI (by omega) (by omega), nI_clamp (by omega), ol, hc2.2.2.2.2.1 i (by omega), hpl]
  exact q1
theorem steps_k {N : Nat} {uc um u w : zS} {nA nF nT nB kn f p i s j n sz k0 g0 : Nat} (hN : 300 ≤ N) (ho : okW (um.1 1) nA nF nT nB kn) (hf : f < nF) (hs : s < 4) (hp : p < 8) (hn : n ≤ 8) (hz : sz ≤ 24) (t7 : ∀ i, i < sz → uc.2 36 (24 * s + i) = um.2 3 (24 * s + i)) (hj : j + n ≤ sz) (hi : i < nA) (hpl : uc.1 2 i = nI p) (hpm : um.1 1 (5 + i) = nI p) (hk0 : k0 < 5) (hg0 : g0 < 8) (ck : uc.1 3 f = nI k0) (cg : uc.1 4 f = nI g0) (mk : um.1 1 (13 + f) = nI k0) (mg : um.1 1 (18 + f) = nI g0) (hu : sC uc um f nF nT nB u) (hl : sl27 u) (hw : sM um (13 + f) w) (old : Int32) : ∃ r u2 w2, f_X5_steps_L133 N (nI i) (nI f) (nI s) (nI j) (nI n) 0 5 N u 0 0 = some (r, u2) ∧ f_X6_steps_L121 N (nI i) (nI s) (nI j) (nI n) 0 (nI (13 + f)) old N w 0 0 = some (r, w2) ∧ (sC uc um f nF nT nB u2 ∧ sl27 u2) ∧ sM um (13 + f) w2 := by
  have hF := ho.2.1.2.1
  have hA := ho.2.1.1
  have key : ∀ (k v q q2 : Nat) (a : Int32) (u w : zS), v + k = 5 → k < q → k < q2 → sC uc um f nF nT nB u ∧ sl27 u → sM um (13 + f) w → ∃ r u2 w2, f_X5_steps_L133 N (nI i) (nI f) (nI s) (nI j) (nI n) 0 5 q u a (nI v) = some (r, u2) ∧ f_X6_steps_L121 N (nI i) (nI s) (nI j) (nI n) 0 (nI (13 + f)) old q2 w a (nI v) = some (r, w2) ∧ (sC uc um f nF nT nB u2 ∧ sl27 u2) ∧ sM um (13 + f) w2 := by
    intro k
    induction k with
    | zero =>
      intro v q q2 a u w w1 w2 w3 hu hw
      obtain ⟨q, rfl⟩ : ∃ z, q = z + 1 := ⟨q - 1, by omega⟩
      obtain ⟨q2, rfl⟩ : ∃ z, q2 = z + 1 := ⟨q2 - 1, by omega⟩
      have : v = 5 := by omega
      subst this
      refine ⟨a, u, w, ?_, ?_, hu, hw⟩
      · show f_X5_steps_L133_B N _ _ _ _ _ _ _ _ _ _ _ = _
        unfold f_X5_steps_L133_B
        rw [if_pos (show (5 : Int32) ≤ nI 5 by decide)]
      · show f_X6_steps_L121_B N _ _ _ _ _ _ _ _ _ _ _ = _
        unfold f_X6_steps_L121_B f_X6_steps_J134
        rw [if_pos rfl]
        rw [if_pos (show (4 : Int32) < nI 5 by decide)]
    | succ k ih =>
      intro v q q2 a u w w1 w2 w3 hu hw
      obtain ⟨q, rfl⟩ : ∃ z, q = z + 1 := ⟨q - 1, by omega⟩
      obtain ⟨q2, rfl⟩ : ∃ z, q2 = z + 1 := ⟨q2 - 1, by omega⟩
      have e1 : (wI w 1 (13 + f) (nI v)).1 1 (13 + f) = nI v := by rw [wI_at, pk_us]
      have e2 : (wI w 1 (13 + f) (nI v)).1 1 (18 + f) = nI g0 := by rw [wI_at, pk_un (by omega), hw.2.2 _ (by omega), mg]
      obtain ⟨u2, r, z1, z2, z3, z4, z5⟩ := one_eq hN ho hf hs hp hn hz t7 hj hi hpl hu.1 hw (by omega) (k := v) (g := g0) (by omega) (by omega) e1 e2 (nI i) 0 (nI (13 + f)) old a (nI v)
      have nxw : sM um (13 + f) (wI w 1 (13 + f) (nI v)) := ⟨hw.1, fun c hc => by rw [wI_ne hc]; exact hw.2.1 c hc, fun z hz => by rw [wI_at, pk_un hz]; exact hw.2.2 z hz⟩
      have sC1 : f_X5_steps_L133 N (nI i) (nI f) (nI s) (nI j) (nI n) 0 5 (q + 1) u a (nI v) = if r = 0 then f_X5_steps_L133 N (nI i) (nI f) (nI s) (nI j) (nI n) 0 5 q u2 a (nI (v + 1)) else f_X5_steps_L133 N (nI i) (nI f) (nI s) (nI j) (nI n) 0 5 q u2 (a ||| (1 <<< (nI v &&& (31 : Int32)))) (nI (v + 1)) := by
        show f_X5_steps_L133_B N _ _ _ _ _ _ _ _ _ _ _ = _
        unfold f_X5_steps_L133_B f_X5_steps_J186
        rw [if_neg (show ¬ (5 : Int32) ≤ nI v from nI_ge (a := v) (b := 5) (by omega) (by omega))]
        rw [if_pos rfl]
        rw [og_nI (by omega) (by omega), nI_clamp (by omega), hu.1.2.1 4 (by omega), cg, z1, ob_s, z4, ob_s, ol, show nI v + 1 = nI (v + 1) from nI_1 v]
      have sM1 : f_X6_steps_L121 N (nI i) (nI s) (nI j) (nI n) 0 (nI (13 + f)) old (q2 + 1) w a (nI v) = if r = 0 then f_X6_steps_L121 N (nI i) (nI s) (nI j) (nI n) 0 (nI (13 + f)) old q2 (wI w 1 (13 + f) (nI v)) a (nI (v + 1)) else f_X6_steps_L121 N (nI i) (nI s) (nI j) (nI n) 0 (nI (13 + f)) old q2 (wI w 1 (13 + f) (nI v)) (a ||| (1 <<< (nI v &&& (31 : Int32)))) (nI (v + 1)) := by
        show f_X6_steps_L121_B N _ _ _ _ _ _ _ _ _ _ _ = _
        unfold f_X6_steps_L121_B f_X6_steps_J134 f_X6_steps_J255
        rw [if_pos rfl]
        have w5 : (wI w 1 (13 + f) (nI v)).1 1 (5 + i) = nI p := by rw [wI_at, pk_un (by omega), hw.2.2 _ (by omega), hpm]
        rw [if_neg (show ¬ (4 : Int32) < nI v from nI_nlt (a := 4) (b := v) (by omega) (by omega)), og_nI (by omega) (by omega), nI_clamp (by omega), ol, show (5 : Int32) + nI i = nI (5 + i) from nI_add 5 i, og_nI (by omega) (by omega), nI_clamp (by omega), ol, w5, z5, ob_s, ol, show nI v + 1 = nI (v + 1) from nI_1 v, or_0]
      rw [sC1, sM1]
      by_cases hr : r = 0
      · rw [if_pos hr, if_pos hr]; exact ih (v + 1) q q2 _ _ _ (by omega) (by omega) (by omega) ⟨z2.1, by unfold sl27; rw [z2.2]; exact hu.2⟩ nxw
      · rw [if_neg hr, if_neg hr]; exact ih (v + 1) q q2 _ _ _ (by omega) (by omega) (by omega) ⟨z2.1, by unfold sl27; rw [z2.2]; exact hu.2⟩ nxw
  exact key 5 0 N N 0 u w (by omega) (by omega) (by omega) ⟨hu, hl⟩ hw
theorem steps_g {N : Nat} {uc um u w : zS} {nA nF nT nB kn f p i s j n sz k0 g0 : Nat} (hN : 300 ≤ N) (ho : okW (um.1 1) nA nF nT nB kn) (hf : f < nF) (hs : s < 4) (hp : p < 8) (hn : n ≤ 8) (hz : sz ≤ 24) (t7 : ∀ i, i < sz → uc.2 36 (24 * s + i) = um.2 3 (24 * s + i)) (hj : j + n ≤ sz) (hi : i < nA) (hpl : uc.1 2 i = nI p) (hpm : um.1 1 (5 + i) = nI p) (hk0 : k0 < 5) (hg0 : g0 < 8) (ck : uc.1 3 f = nI k0) (cg : uc.1 4 f = nI g0) (mk : um.1 1 (13 + f) = nI k0) (mg : um.1 1 (18 + f) = nI g0) (hu : sC uc um f nF nT nB u) (hl : sl27 u) (hw : sM um (18 + f) w) (old : Int32) : ∃ r u2 w2, f_X5_steps_L133 N (nI i) (nI f) (nI s) (nI j) (nI n) 1 8 N u 0 0 = some (r, u2) ∧ f_X6_steps_L121 N (nI i) (nI s) (nI j) (nI n) 1 (nI (18 + f)) old N w 0 0 = some (r, w2) ∧ (sC uc um f nF nT nB u2 ∧ sl27 u2) ∧ sM um (18 + f) w2 := by
  have hF := ho.2.1.2.1
  have hA := ho.2.1.1
  have key : ∀ (k v q q2 : Nat) (a : Int32) (u w : zS), v + k = 8 → k < q → k < q2 → sC uc um f nF nT nB u ∧ sl27 u → sM um (18 + f) w → ∃ r u2 w2, f_X5_steps_L133 N (nI i) (nI f) (nI s) (nI j) (nI n) 1 8 q u a (nI v) = some (r, u2) ∧ f_X6_steps_L121 N (nI i) (nI s) (nI j) (nI n) 1 (nI (18 + f)) old q2 w a (nI v) = some (r, w2) ∧ (sC uc um f nF nT nB u2 ∧ sl27 u2) ∧ sM um (18 + f) w2 := by
    intro k
    induction k with
    | zero =>
      intro v q q2 a u w w1 w2 w3 hu hw
      obtain ⟨q, rfl⟩ : ∃ z, q = z + 1 := ⟨q - 1, by omega⟩
      obtain ⟨q2, rfl⟩ : ∃ z, q2 = z + 1 := ⟨q2 - 1, by omega⟩
      have : v = 8 := by omega
      subst this
      refine ⟨a, u, w, ?_, ?_, hu, hw⟩
      · show f_X5_steps_L133_B N _ _ _ _ _ _ _ _ _ _ _ = _
        unfold f_X5_steps_L133_B
        rw [if_pos (show (8 : Int32) ≤ nI 8 by decide)]
      · show f_X6_steps_L121_B N _ _ _ _ _ _ _ _ _ _ _ = _
        unfold f_X6_steps_L121_B f_X6_steps_J134
        rw [if_neg (show ¬ (1 : Int32) = 0 by decide)]
        rw [if_pos (show (7 : Int32) < nI 8 by decide)]
    | succ k ih =>
      intro v q q2 a u w w1 w2 w3 hu hw
      obtain ⟨q, rfl⟩ : ∃ z, q = z + 1 := ⟨q - 1, by omega⟩
      obtain ⟨q2, rfl⟩ : ∃ z, q2 = z + 1 := ⟨q2 - 1, by omega⟩
      have e1 : (wI w 1 (18 + f) (nI v)).1 1 (13 + f) = nI k0 := by rw [wI_at, pk_un (by omega), hw.2.2 _ (by omega), mk]
      have e2 : (wI w 1 (18 + f) (nI v)).1 1 (18 + f) = nI v := by rw [wI_at, pk_us]
      obtain ⟨u2, r, z1, z2, z3, z4, z5⟩ := one_eq hN ho hf hs hp hn hz t7 hj hi hpl hu.1 hw (by omega) (k := k0) (g := v) (by omega) (by omega) e1 e2 (nI i) 1 (nI (18 + f)) old a (nI v)
      have nxw : sM um (18 + f) (wI w 1 (18 + f) (nI v)) := ⟨hw.1, fun c hc => by rw [wI_ne hc]; exact hw.2.1 c hc, fun z hz => by rw [wI_at, pk_un hz]; exact hw.2.2 z hz⟩
      have sC1 : f_X5_steps_L133 N (nI i) (nI f) (nI s) (nI j) (nI n) 1 8 (q + 1) u a (nI v) = if r = 0 then f_X5_steps_L133 N (nI i) (nI f) (nI s) (nI j) (nI n) 1 8 q u2 a (nI (v + 1)) else f_X5_steps_L133 N (nI i) (nI f) (nI s) (nI j) (nI n) 1 8 q u2 (a ||| (1 <<< (nI v &&& (31 : Int32)))) (nI (v + 1)) := by
        show f_X5_steps_L133_B N _ _ _ _ _ _ _ _ _ _ _ = _
        unfold f_X5_steps_L133_B f_X5_steps_J186
        rw [if_neg (show ¬ (8 : Int32) ≤ nI v from nI_ge (a := v) (b := 8) (by omega) (by omega))]
        rw [if_neg (show ¬ (1 : Int32) = 0 by decide)]
        rw [og_nI (by omega) (by omega), nI_clamp (by omega), hu.1.2.1 3 (by omega), ck, z1, ob_s, z4, ob_s, ol, show nI v + 1 = nI (v + 1) from nI_1 v]
      have sM1 : f_X6_steps_L121 N (nI i) (nI s) (nI j) (nI n) 1 (nI (18 + f)) old (q2 + 1) w a (nI v) = if r = 0 then f_X6_steps_L121 N (nI i) (nI s) (nI j) (nI n) 1 (nI (18 + f)) old q2 (wI w 1 (18 + f) (nI v)) a (nI (v + 1)) else f_X6_steps_L121 N (nI i) (nI s) (nI j) (nI n) 1 (nI (18 + f)) old q2 (wI w 1 (18 + f) (nI v)) (a ||| (1 <<< (nI v &&& (31 : Int32)))) (nI (v + 1)) := by
        show f_X6_steps_L121_B N _ _ _ _ _ _ _ _ _ _ _ = _
        unfold f_X6_steps_L121_B f_X6_steps_J134 f_X6_steps_J255
        rw [if_neg (show ¬ (1 : Int32) = 0 by decide)]
        have w5 : (wI w 1 (18 + f) (nI v)).1 1 (5 + i) = nI p := by rw [wI_at, pk_un (by omega), hw.2.2 _ (by omega), hpm]
        rw [if_neg (show ¬ (7 : Int32) < nI v from nI_nlt (a := 7) (b := v) (by omega) (by omega)), og_nI (by omega) (by omega), nI_clamp (by omega), ol, show (5 : Int32) + nI i = nI (5 + i) from nI_add 5 i, og_nI (by omega) (by omega), nI_clamp (by omega), ol, w5, z5, ob_s, ol, show nI v + 1 = nI (v + 1) from nI_1 v, or_0]
      rw [sC1, sM1]
      by_cases hr : r = 0
      · rw [if_pos hr, if_pos hr]; exact ih (v + 1) q q2 _ _ _ (by omega) (by omega) (by omega) ⟨z2.1, by unfold sl27; rw [z2.2]; exact hu.2⟩ nxw
      · rw [if_neg hr, if_neg hr]; exact ih (v + 1) q q2 _ _ _ (by omega) (by omega) (by omega) ⟨z2.1, by unfold sl27; rw [z2.2]; exact hu.2⟩ nxw
  exact key 8 0 N N 0 u w (by omega) (by omega) (by omega) ⟨hu, hl⟩ hw
theorem ok_steps {N : Nat} {uc um : zS} (hN : 300 ≤ N) (h : RR uc um) (a0 a1' a2 a3 a4 a5 a6 : Int32) : op_steps N RR uc um a0 a1' a2 a3 a4 a5 a6 := by
  unfold op_steps f_X5_steps f_X6_steps
  obtain ⟨nA, nF, nT, nB, kn, sl, hW, hc⟩ := h.1
  have a1 := hW.1.1
  have b1 := hW.2.1.1
  have a2' := hW.1.2.1
  have b2 := hW.2.1.2.1
  have b3 := hW.2.1.2.2.1
  have d2 := hc.1.2.1
  have d1 := hc.1.1
  rw [isAngel_eq a1 (d1.trans a1) (by omega), isFigure_eq a2' (d2.trans a2') (by omega), show f_X6_in a5.toInt64 1 8 = f_X5_within a5 1 8 from in_within a5 1 8, show f_X6_in a6.toInt64 0 1 = f_X5_within a6 0 1 from in_within a6 0 1]
  rcases hasA (d1.trans a1) (by omega) a0 with h0 | ⟨i, hi, rfl, h1⟩
  · rw [if_pos h0, if_pos h0]; exact ⟨_, _, _, rfl, rfl, h⟩
  have h1n : ¬ f_X1_hasAngel 1 uc (nI i) = 0 := by rw [h1]; decide
  rw [if_neg h1n, if_neg h1n]
  rcases hasF (d2.trans a2') (by omega) a1' with h0 | ⟨f, hf, rfl, h1⟩
  · rw [if_pos h0, if_pos h0]; exact ⟨_, _, _, rfl, rfl, h⟩
  have h1n : ¬ f_X1_hasFigure 1 uc (nI f) = 0 := by rw [h1]; decide
  rw [if_neg h1n, if_neg h1n]
  rcases isSh a2 with h0 | ⟨s, hs, rfl, h3⟩
  · rw [if_pos h0, if_pos (isLane_no h0)]; exact ⟨_, _, _, rfl, rfl, h⟩
  have h3n : ¬ f_X5_isSheet (nI s) = 0 := by rw [h3]; decide
  rw [if_neg h3n, isLane_eq hs]
  by_cases hl : f_X5_isLane a3 = 0
  · rw [if_pos hl, if_pos hl]; exact ⟨_, _, _, rfl, rfl, h⟩
  rw [if_neg hl, if_neg hl]
  rcases wi a5 (lo := 1) (hi := 8) (by omega) (by omega) with h0 | ⟨n, hn1, hn, rfl, h2⟩
  · have h0 : f_X5_within a5 1 8 = 0 := h0
    rw [if_pos h0, if_pos h0]; exact ⟨_, _, _, rfl, rfl, h⟩
  have h2n : ¬ f_X5_within (nI n) 1 8 = 0 := by rw [show f_X5_within (nI n) 1 8 = 1 from h2]; decide
  rw [if_neg h2n, if_neg h2n]
  rcases wi a6 (lo := 0) (hi := 1) (by omega) (by omega) with h0 | ⟨wh, _, hwh, rfl, h2⟩
  · have h0 : f_X5_within a6 0 1 = 0 := h0
    rw [if_pos h0, if_pos h0]; exact ⟨_, _, _, rfl, rfl, h⟩
  have h2n : ¬ f_X5_within (nI wh) 0 1 = 0 := by rw [show f_X5_within (nI wh) 0 1 = 1 from h2]; decide
  rw [if_neg h2n, if_neg h2n]
  obtain ⟨r, e1, e2, e3⟩ := ref_eq h.2.2.2 hs a3 a4 (nI n)
  rw [e1, e2, ob_s, ob_s]
  rcases e3 with e3 | ⟨rfl, ln, sz, j, c, ⟨t1, t2, t3, t4, t5, t6, t7⟩, rfl, rfl, ec, hjc⟩
  · rw [if_neg e3, if_neg e3]; exact ⟨_, _, _, rfl, rfl, h⟩
  have ec : c = n := ((nI_eq (by omega) (by omega)).mp ec).symm
  subst ec
  have e : uc.1 2 i = um.1 1 (5 + i) := hc.2.1 i hi
  have hv := hW.2.2.2.1 i hi
  rw [if_pos (show (0 : Int32) ≤ 0 by decide), if_pos (show (0 : Int32) ≤ 0 by decide), og_nI (by omega) (by omega), nI_clamp (by omega), e, show (5 : Int32) + nI i = nI (5 + i) from nI_add 5 i, og_nI (by omega) (by omega), nI_clamp (by omega)]
  rcases hv with hv | ⟨p, hp, hv⟩
  · rw [if_pos hv, if_pos hv]; exact ⟨_, _, _, rfl, rfl, h⟩
  have hv4 : ¬ um.1 1 (5 + i) = -4 := by rw [hv]; exact nI_n4 (by omega)
  rw [if_neg hv4, if_neg hv4, ol]
  have hl := like_eq (b := 21) (e := 1) (u := uc) (by omega)
  generalize f_X1_becomeLike 21 1 uc = u at hl
  have hcl := LF_cR hW hl hc
  obtain ⟨⟨k0, hk0, ek⟩, g0, hg0, eg⟩ := hW.2.2.2.2.1 f hf
  have ck : uc.1 3 f = nI k0 := (hc.2.2.1 f hf).1.trans ek
  have cg : uc.1 4 f = nI g0 := (hc.2.2.1 f hf).2.1.trans eg
  have hu : sC uc um f nF nT nB u := ⟨hl.1, fun c hc => hl.2.1 c (by omega), hcl.1.2.2.1.trans hW.1.2.2.1, hcl.1.2.2.2.1.trans hW.1.2.2.2.1, fun z hz => hl.2.2.2.1 z hz, fun z hz => hcl.2.2.2.1 z hz, fun z hz _ y hy => (hcl.2.2.1 z hz).2.2 y hy⟩
  have hl27 : sl27 u := ⟨sl, hcl.1.2.2.2.2.2.2.2, hcl.1.2.2.2.2.2.2.1⟩
  have fin : ∀ (u2 w2 : zS) (idx : Nat), (idx = 13 + f ∨ idx = 18 + f) → sC uc um f nF nT nB u2 ∧ sl27 u2 → sM um idx w2 → RR u2 (wI w2 1 idx (um.1 1 idx)) := by
    intro u2 w2 idx hidx g1' g2
    have g1 := g1'.1
    have sm : ∀ z, (wI w2 1 idx (um.1 1 idx)).1 1 z = um.1 1 z := fun z => by
      rw [wI_at]
      by_cases hz : z = idx
      · subst hz; rw [pk_us]
      · rw [pk_un hz, g2.2.2 z hz]
    have o := g1.2.1
    obtain ⟨_, n, y1, y2, y3, y4⟩ := h.2.2.1
    exact ⟨rgR_same h.1 (fun c x1 x2 => o c (by omega)) (fun k _ => sm k), imR_congr h.2.1 (by rw [o 0 (by omega)]) (fun c x1 x2 => o c (by omega)) (by rw [wI_ne (by omega), g2.2.1 0 (by omega)]) (fun k _ _ => sm k), ⟨g1'.2, n, y1, by rw [o 31 (by omega)]; exact y2, by rw [wI_ne (by omega), g2.2.1 0 (by omega)]; exact y3, fun i hi => by rw [o 32 (by omega), wI_ne (by omega), g2.2.1 2 (by omega)]; exact y4 i hi⟩, shR_congr h.2.2.2 (o 34 (by omega)) (o 35 (by omega)) (by rw [g1.1]) (by rw [wI_ne (by omega), g2.2.1 4 (by omega)]) (by rw [wI_ne (by omega), g2.2.1 5 (by omega)]) (by rw [wI_2, g2.1])⟩
  have hw0 : ∀ idx, sM um idx um := fun idx => ⟨rfl, fun _ _ => rfl, fun _ _ => rfl⟩
  unfold f_X5_steps_J128 f_X6_steps_J104
  by_cases h0 : wh = 0
  · subst h0
    rw [if_pos (show nI 0 = (0 : Int32) by decide), if_pos (show nI 0 = (0 : Int32) by decide), show (13 : Int32) + nI f = nI (13 + f) from nI_add 13 f, og_nI (by omega) (by omega), nI_clamp (by omega)]
    obtain ⟨r, u2, w2, g1, g2, g3, g4⟩ := steps_k hN hW hf hs hp (by omega) t2 t7 hjc hi (e.trans hv) hv hk0 hg0 ck cg ek eg hu hl27 (hw0 _) (um.1 1 (13 + f))
    rw [show f_X5_steps_L133 N (nI i) (nI f) (nI s) (nI j) (nI c) (nI 0) 5 N u 0 0 = some (r, u2) from g1, show f_X6_steps_L121 N (nI i) (nI s) (nI j) (nI c) (nI 0) (nI (13 + f)) (um.1 1 (13 + f)) N um 0 0 = some (r, w2) from g2, ob_s, ob_s, og_nI (by omega) (by omega), ol]
    exact ⟨_, _, _, rfl, rfl, fin u2 w2 _ (by omega) g3 g4⟩
  · have : wh = 1 := by omega
    subst this
    rw [if_neg (show ¬ nI 1 = (0 : Int32) by decide), if_neg (show ¬ nI 1 = (0 : Int32) by decide), show (18 : Int32) + nI f = nI (18 + f) from nI_add 18 f, og_nI (by omega) (by omega), nI_clamp (by omega)]
    obtain ⟨r, u2, w2, g1, g2, g3, g4⟩ := steps_g hN hW hf hs hp (by omega) t2 t7 hjc hi (e.trans hv) hv hk0 hg0 ck cg ek eg hu hl27 (hw0 _) (um.1 1 (18 + f))
    rw [show f_X5_steps_L133 N (nI i) (nI f) (nI s) (nI j) (nI c) (nI 1) 8 N u 0 0 = some (r, u2) from g1, show f_X6_steps_L121 N (nI i) (nI s) (nI j) (nI c) (nI 1) (nI (18 + f)) (um.1 1 (18 + f)) N um 0 0 = some (r, w2) from g2, ob_s, ob_s, og_nI (by omega) (by omega), ol]
    exact ⟨_, _, _, rfl, rfl, fin u2 w2 _ (by omega) g3 g4⟩
