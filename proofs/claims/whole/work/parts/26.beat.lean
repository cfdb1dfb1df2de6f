/-! figures lead: one beat of the tune; beats, drift -/
/-- where the beat of number t leads one at x (a place, or GONE), as the row W tells it -/
def gS (W : Nat → Int32) (nT t : Nat) (x : Int32) : Int32 := if nT = 0 then x else if x = -4 then x else f_X6_leadsBy (W (13 + (W (23 + t % nT)).toNatClampNeg)) (W (18 + (W (23 + t % nT)).toNatClampNeg)) x
theorem gS_vP {W : Nat → Int32} {nA nF nT nB kn : Nat} (h : okW W nA nF nT nB kn) (t : Nat) {x : Int32} (hx : vP x) : vP (gS W nT t x) := by
  unfold gS
  by_cases h0 : nT = 0
  · rw [if_pos h0]; exact hx
  · rw [if_neg h0]
    rcases hx with rfl | ⟨p, hp, rfl⟩
    · rw [if_pos rfl]; exact Or.inl rfl
    · rw [if_neg (nI_n4 (by omega))]
      obtain ⟨f, hf, ef⟩ := h.2.2.2.2.2.1 (t % nT) (Nat.mod_lt _ (by omega))
      have hF := h.2.1.2.1
      rw [ef, nI_clamp (by omega)]
      obtain ⟨⟨k, hk, ek⟩, g, hg, eg⟩ := h.2.2.2.2.1 f hf
      rw [ek, eg]
      obtain ⟨q, hq, eq⟩ := leadsBy_lt k hk g hg p hp
      exact Or.inr ⟨q, hq, eq⟩
/-- the part of a ring that leads -/
def cT (b : Nat) (u : zS) (W : Nat → Int32) (nF nT : Nat) : Prop := u.1 b 8 = W 2 ∧ (∀ i, i < nF → ∀ p, p < 8 → u.1 (b + 4) (8 * i + p) = f_X6_leadsBy (W (13 + i)) (W (18 + i)) (nI p)) ∧ ∀ i, i < nT → u.1 (b + 5) i = W (23 + i)
theorem cR.t {b : Nat} {u : zS} {W : Nat → Int32} {nA nF nT kn sl : Nat} (h : cR b u W nA nF nT kn sl) : cT b u W nF nT := ⟨h.1.2.2.1, fun i hi => (h.2.2.1 i hi).2.2, h.2.2.2.1⟩
theorem cT.congr {b : Nat} {u w : zS} {W : Nat → Int32} {nF nT : Nat} (h : cT b u W nF nT) (e0 : w.1 b 8 = u.1 b 8) (e4 : w.1 (b + 4) = u.1 (b + 4)) (e5 : w.1 (b + 5) = u.1 (b + 5)) : cT b w W nF nT := by
  unfold cT
  rw [e0, e4, e5]
  exact h
theorem ledBy_eq {b : Nat} {u : zS} {W : Nat → Int32} {nF nT f p : Nat} (h : cT b u W nF nT) (hf : f < nF) (hF : nF ≤ 5) (hp : p < 8) : f_X1_ledBy b u (nI f) (nI p) = some (f_X6_leadsBy (W (13 + f)) (W (18 + f)) (nI p)) := by
  unfold f_X1_ledBy
  rw [show nI f * 8 = nI (f * 8) from pk_mul f 8, nI_add, og_nI (by omega) (by omega), nI_clamp (by omega), show f * 8 + p = 8 * f + p by omega, h.2.1 f hf p hp]
theorem leadsOf_eq {um : zS} {f : Nat} {x : Int32} (hf : f < 5) : f_X6_leadsOf um (nI f) x = some (f_X6_leadsBy (um.1 1 (13 + f)) (um.1 1 (18 + f)) x) := by
  unfold f_X6_leadsOf
  rw [show (13 : Int32) + nI f = nI (13 + f) from nI_add 13 f, show (18 : Int32) + nI f = nI (18 + f) from nI_add 18 f, og_nI (by omega) (by omega), og_nI (by omega) (by omega), nI_clamp (by omega), nI_clamp (by omega)]
theorem goesOn_eq {b : Nat} {u : zS} {W : Nat → Int32} {nA nF nT nB kn t : Nat} (ho : okW W nA nF nT nB kn) (h : cT b u W nF nT) (ht : t < 2 ^ 31) {x : Int32} (hx : vP x) : f_X1_goesOn b u x (nI t) = some (gS W nT t x) := by
  unfold f_X1_goesOn gS
  have a3 := ho.1.2.2.1
  have b3 := ho.2.1.2.2.1
  have b2 := ho.2.1.2.1
  rw [h.1, a3]
  by_cases h0 : nT = 0
  · subst h0
    rw [if_pos (show nI 0 ≤ (0 : Int32) by decide), if_pos rfl]
  · rw [if_neg (show ¬ nI nT ≤ 0 from nI_nle (by omega) (by omega)), if_neg h0]
    rcases hx with rfl | ⟨p, hp, rfl⟩
    · rw [if_pos rfl, if_pos rfl]
    · have hlt := Nat.mod_lt t (show 0 < nT by omega)
      rw [if_neg (nI_n4 (by omega)), if_neg (nI_n4 (by omega)), og_neN (by omega) (by omega), pk_rem ht (by omega) (by omega), og_nI (by omega) (by omega), nI_clamp (by omega), h.2.2 _ hlt]
      obtain ⟨f, hf, ef⟩ := ho.2.2.2.2.2.1 (t % nT) hlt
      rw [ef, nI_clamp (by omega), ledBy_eq h hf b2 hp]
      rfl
theorem dance_eq {N : Nat} {uc : zS} {W : Nat → Int32} {nA nF nT nB kn : Nat} (hN : 300 ≤ N) (ho : okW W nA nF nT nB kn) (h : cT 1 uc W nF nT) (h6 : uc.1 1 6 = nI nA) (h9 : uc.1 1 9 = nI nB) (hp : ∀ i, i < nA → vP (uc.1 2 i)) : ∃ vc, f_X1_dance N 1 uc = some vc ∧ vc.2 = uc.2 ∧ (∀ c, c ≠ 1 → c ≠ 2 → vc.1 c = uc.1 c) ∧ (∀ j, j ≠ 9 → vc.1 1 j = uc.1 1 j) ∧ vc.1 1 9 = nI (nB + 1) ∧ ∀ j, vc.1 2 j = if j < nA then gS W nT nB (uc.1 2 j) else uc.1 2 j := by
  have hA := ho.2.1.1
  have hB := ho.2.1.2.2.2.1
  have key : ∀ (k i q : Nat) (w : zS), i + k = nA → k < q → w.2 = uc.2 → (∀ c, c ≠ 2 → w.1 c = uc.1 c) → (∀ j, w.1 2 j = if j < i then gS W nT nB (uc.1 2 j) else uc.1 2 j) → ∃ vc, f_X1_dance_L2 N 1 q w (nI i) = some vc ∧ vc.2 = uc.2 ∧ (∀ c, c ≠ 2 → vc.1 c = uc.1 c) ∧ ∀ j, vc.1 2 j = if j < nA then gS W nT nB (uc.1 2 j) else uc.1 2 j := by
    intro k
    induction k with
    | zero =>
      intro i q w e1 e2 e3 e4 e5
      obtain ⟨q, rfl⟩ : ∃ z, q = z + 1 := ⟨q - 1, by omega⟩
      have : i = nA := by omega
      subst this
      refine ⟨w, ?_, e3, e4, e5⟩
      show f_X1_dance_L2_B N _ _ _ _ = _
      unfold f_X1_dance_L2_B
      rw [e4 1 (by omega), h6, if_pos (nI_le (Nat.le_refl _) (by omega))]
    | succ k ih =>
      intro i q w e1 e2 e3 e4 e5
      obtain ⟨q, rfl⟩ : ∃ z, q = z + 1 := ⟨q - 1, by omega⟩
      show ∃ v, f_X1_dance_L2_B N _ _ _ _ = _ ∧ _
      unfold f_X1_dance_L2_B
      have hw : cT 1 w W nF nT := h.congr (by rw [e4 1 (by omega)]) (e4 _ (by omega)) (e4 _ (by omega))
      have e5i : w.1 (1 + 1) i = uc.1 2 i := by show w.1 2 i = _; rw [e5, if_neg (by omega)]
      rw [e4 1 (by omega), h6, if_neg (nI_ge (by omega) (by omega)), og_nI (by omega) (by omega), nI_clamp (by omega), show nI i + 1 = nI (i + 1) from nI_1 i, e5i, h9, goesOn_eq ho hw (by omega) (hp i (by omega)), ob_s, og_nI (by omega) (by omega), ol]
      refine ih (i + 1) q _ (by omega) (by omega) (by rw [wI_2]; exact e3) (fun c hc => by rw [wI_ne (by omega)]; exact e4 c hc) (fun j => ?_)
      show (wI w 2 i _).1 2 j = _
      rw [wI_at]
      by_cases hj : j = i
      · subst hj; rw [pk_us, if_pos (by omega)]
      · rw [pk_un hj, e5]
        by_cases hj2 : j < i
        · rw [if_pos hj2, if_pos (by omega)]
        · rw [if_neg hj2, if_neg (by omega)]
  obtain ⟨v, h2, h3, h4, h5⟩ := key nA 0 N uc (by omega) (by omega) rfl (fun _ _ => rfl) (fun j => by rw [if_neg (by omega)])
  unfold f_X1_dance
  rw [show (0 : Int32) = nI 0 from rfl, h2, ob_s, ol]
  have v9 : v.1 1 9 = nI nB := by rw [h4 1 (by omega)]; exact h9
  rw [v9, show nI nB + 1 = nI (nB + 1) from nI_1 nB]
  exact ⟨_, rfl, by rw [wI_2]; exact h3, fun c c1 c2 => by rw [wI_ne c1]; exact h4 c c2, fun j hj => by rw [wI_at, pk_un hj, h4 1 (by omega)], by rw [wI_at, pk_us], fun j => by rw [wI_ne (by omega)]; exact h5 j⟩
theorem passes_eq {N : Nat} {um : zS} {nA nF nT nB kn : Nat} (hN : 300 ≤ N) (ho : okW (um.1 1) nA nF nT nB kn) : ∃ vm, f_X6_passes N um = some vm ∧ vm.2 = um.2 ∧ (∀ c, c ≠ 1 → vm.1 c = um.1 c) ∧ (∀ j, j ≠ 3 → vm.1 1 j = if 5 ≤ j ∧ j < 5 + nA then gS (um.1 1) nT nB (um.1 1 j) else um.1 1 j) ∧ vm.1 1 3 = nI (nB + 1) := by
  have ho2 := ho
  obtain ⟨⟨a1, a2, a3, a4, a5⟩, ⟨b1, b2, b3, b4, b5⟩, c1, c2, c3, c4, c5⟩ := ho
  have fin : ∀ v : zS, v.2 = um.2 → (∀ c, c ≠ 1 → v.1 c = um.1 c) → (∀ j, v.1 1 j = if 5 ≤ j ∧ j < 5 + nA then gS (um.1 1) nT nB (um.1 1 j) else um.1 1 j) → (∃ vm, (olet (wI v 1 3 ((v.1 1 3) + 1)) fun u12 => some u12) = some vm ∧ vm.2 = um.2 ∧ (∀ c, c ≠ 1 → vm.1 c = um.1 c) ∧ (∀ j, j ≠ 3 → vm.1 1 j = if 5 ≤ j ∧ j < 5 + nA then gS (um.1 1) nT nB (um.1 1 j) else um.1 1 j) ∧ vm.1 1 3 = nI (nB + 1)) := by
    intro v g1 g2 g3
    have v3 : v.1 1 3 = nI nB := by rw [g3, if_neg (by omega)]; exact a4
    rw [v3, show nI nB + 1 = nI (nB + 1) from nI_1 nB]
    exact ⟨_, rfl, by rw [wI_2]; exact g1, fun c hc => by rw [wI_ne hc]; exact g2 c hc, fun j hj => by rw [wI_at, pk_un hj]; exact g3 j, by rw [wI_at, pk_us]⟩
  unfold f_X6_passes
  by_cases h0 : nT = 0
  · -- no tune: the loop ends at once
    have st : f_X6_passes_L2 N N um 0 = some um := by
      obtain ⟨q, rfl⟩ : ∃ z, N = z + 1 := ⟨N - 1, by omega⟩
      show f_X6_passes_L2_B _ _ _ _ = _
      unfold f_X6_passes_L2_B
      by_cases hA0 : um.1 1 0 ≤ 0
      · rw [if_pos hA0]
      · rw [if_neg hA0, a3, h0, if_pos (show nI 0 ≤ (0 : Int32) by decide)]
    rw [st, ob_s]
    refine fin um rfl (fun _ _ => rfl) (fun j => ?_)
    by_cases hj : 5 ≤ j ∧ j < 5 + nA
    · rw [if_pos hj, gS, if_pos h0]
    · rw [if_neg hj]
  · have key : ∀ (k i q : Nat) (w : zS), i + k = nA → k < q → w.2 = um.2 → (∀ c, c ≠ 1 → w.1 c = um.1 c) → (∀ j, w.1 1 j = if 5 ≤ j ∧ j < 5 + i then gS (um.1 1) nT nB (um.1 1 j) else um.1 1 j) → ∃ v, f_X6_passes_L2 N q w (nI i) = some v ∧ v.2 = um.2 ∧ (∀ c, c ≠ 1 → v.1 c = um.1 c) ∧ ∀ j, v.1 1 j = if 5 ≤ j ∧ j < 5 + nA then gS (um.1 1) nT nB (um.1 1 j) else um.1 1 j := by
      intro k
      induction k with
      | zero =>
        intro i q w e1 e2 e3 e4 e5
        obtain ⟨q, rfl⟩ : ∃ z, q = z + 1 := ⟨q - 1, by omega⟩
        have : i = nA := by omega
        subst this
        refine ⟨w, ?_, e3, e4, e5⟩
        show f_X6_passes_L2_B N _ _ _ = _
        unfold f_X6_passes_L2_B
        have w0 : w.1 1 0 = nI i := by rw [e5, if_neg (by omega), a1]
        rw [w0, if_pos (nI_le (Nat.le_refl _) (by omega))]
      | succ k ih =>
        intro i q w e1 e2 e3 e4 e5
        obtain ⟨q, rfl⟩ : ∃ z, q = z + 1 := ⟨q - 1, by omega⟩
        show ∃ v, f_X6_passes_L2_B N _ _ _ = _ ∧ _
        unfold f_X6_passes_L2_B
        have low : ∀ j, ¬ (5 ≤ j ∧ j < 13) → w.1 1 j = um.1 1 j := fun j hj => by rw [e5, if_neg (by omega)]
        have wi5 : w.1 1 (5 + i) = um.1 1 (5 + i) := by rw [e5, if_neg (by omega)]
        have hlt := Nat.mod_lt nB (show 0 < nT by omega)
        have nx : ∀ x, x = gS (um.1 1) nT nB (um.1 1 (5 + i)) → ∀ w2 : zS, w2.2 = w.2 → (∀ c, c ≠ 1 → w2.1 c = w.1 c) → (w2.1 1 = upd (w.1 1) (5 + i) x) → ∃ v, f_X6_passes_L2 N q w2 (nI (i + 1)) = some v ∧ v.2 = um.2 ∧ (∀ c, c ≠ 1 → v.1 c = um.1 c) ∧ ∀ j, v.1 1 j = if 5 ≤ j ∧ j < 5 + nA then gS (um.1 1) nT nB (um.1 1 j) else um.1 1 j := by
          intro x hx w2 k1 k2 k3
          refine ih (i + 1) q w2 (by omega) (by omega) (k1.trans e3) (fun c hc => (k2 c hc).trans (e4 c hc)) (fun j => ?_)
          rw [k3]
          by_cases hj : j = 5 + i
          · subst hj; rw [pk_us, if_pos (by omega)]; exact hx
          · rw [pk_un hj, e5]
            by_cases hj2 : 5 ≤ j ∧ j < 5 + i
            · rw [if_pos hj2, if_pos (by omega)]
            · rw [if_neg hj2, if_neg (by omega)]
        rw [low 0 (by omega), low 2 (by omega), low 3 (by omega), a1, a3, a4, if_neg (nI_ge (by omega) (by omega)), if_neg (show ¬ nI nT ≤ 0 from nI_nle (by omega) (by omega)), show (5 : Int32) + nI i = nI (5 + i) from nI_add 5 i, og_nI (by omega) (by omega), nI_clamp (by omega), show nI i + 1 = nI (i + 1) from nI_1 i, wi5]
        by_cases h4 : um.1 1 (5 + i) = -4
        · rw [if_pos h4]
          refine nx (um.1 1 (5 + i)) (by rw [gS, if_neg h0, if_pos h4]) w rfl (fun _ _ => rfl) ?_
          rw [← wi5]; exact (fa_upd_same rfl).symm
        · obtain ⟨f, hf, ef⟩ := c4 (nB % nT) hlt
          rw [if_neg h4, og_neN (by omega) (by omega), pk_rem (by omega) (by omega) (by omega), show (23 : Int32) + nI (nB % nT) = nI (23 + nB % nT) from nI_add 23 _, og_nI (by omega) (by omega), og_nI (by omega) (by omega), nI_clamp (by omega), low _ (by omega), ef, leadsOf_eq (by omega), ob_s, og_nI (by omega) (by omega), ol, low _ (by omega), low _ (by omega)]
          refine nx _ ?_ _ rfl (fun c hc => wI_ne hc) wI_at
          rw [gS, if_neg h0, if_neg h4, ef, nI_clamp (by omega)]
    obtain ⟨v, h2, h3, h4, h5⟩ := key nA 0 N um (by omega) (by omega) rfl (fun _ _ => rfl) (fun j => by rw [if_neg (by omega)])
    rw [show (0 : Int32) = nI 0 from rfl, h2, ob_s]
    exact fin v h3 h4 h5
theorem RG_dance {N : Nat} {uc um : zS} {nA nF nT nB kn sl : Nat} (hN : 300 ≤ N) (hB : nB + 1 ≤ 9999) (h : RG uc um nA nF nT nB kn sl) : ∃ vc vm, f_X1_dance N 1 uc = some vc ∧ f_X6_passes N um = some vm ∧ RG vc vm nA nF nT (nB + 1) kn sl ∧ FC uc vc ∧ FM um vm := by
  have b1 := h.1.2.1.1
  have hpl : ∀ i, i < nA → uc.1 2 i = um.1 1 (5 + i) := h.2.2.1
  obtain ⟨vc, p1, p2, p3, p4, p5, p6⟩ := dance_eq hN h.1 h.2.t (h.2.1.1.trans h.1.1.1) (h.2.1.2.2.2.1.trans h.1.1.2.2.2.1) (fun i hi => by rw [hpl i hi]; exact h.1.2.2.2.1 i hi)
  obtain ⟨vm, q1, q2, q3, q4, q5⟩ := passes_eq hN h.1
  refine ⟨vc, vm, p1, q1, RG_move h (fun c g1 g2 g3 => p3 c g1 g2) ⟨p4 6 (by omega), p4 7 (by omega), p4 8 (by omega)⟩ (fun j g1 g2 => by rw [q4 j (by omega), if_neg (by omega)]) ⟨by rw [p5, q5], q5, hB⟩ ⟨by rw [p4 10 (by omega), q4 4 (by omega), if_neg (by omega)]; exact h.2.1.2.2.2.2.1, by rw [q4 4 (by omega), if_neg (by omega)]; exact h.1.2.2.1⟩ (fun i hi => ?_), ⟨p3 0 (by omega) (by omega), fun c g1 g2 => p3 c (by omega) (by omega), p3 31 (by omega) (by omega), p3 32 (by omega) (by omega), p3 34 (by omega) (by omega), p3 35 (by omega) (by omega), by rw [p2]⟩, ⟨by rw [q3 0 (by omega)], by rw [q3 0 (by omega)], q3 2 (by omega), q3 4 (by omega), q3 5 (by omega), by rw [q2], fun k g1 g2 => by rw [q4 k (by omega), if_neg (by omega)]⟩⟩
  rw [p6, if_pos hi, q4 _ (by omega), if_pos (by omega), hpl i hi]
  exact ⟨rfl, gS_vP h.1 nB (h.1.2.2.2.1 i hi)⟩
theorem ref_beats {uc : zS} {nB : Nat} (h : uc.1 1 9 = nI nB) (hB : nB ≤ 9999) (v : Int32) : (f_X5_within v 1 40 = 0 ∧ f_X5_refusedBeats uc v = -1) ∨ ∃ n, n ≤ 40 ∧ v = nI n ∧ ¬ f_X5_within v 1 40 = 0 ∧ ((nB + n ≤ 9999 ∧ nI nB + v ≤ 9999 ∧ f_X5_refusedBeats uc v = 0) ∨ (¬ nI nB + v ≤ 9999 ∧ f_X5_refusedBeats uc v = -3)) := by
  unfold f_X5_refusedBeats
  rcases wi v (lo := 1) (hi := 40) (by omega) (by omega) with h0 | ⟨n, hn1, hn2, rfl, h1⟩
  · left
    have h0 : f_X5_within v 1 40 = 0 := h0
    rw [if_pos h0]; exact ⟨h0, rfl⟩
  · right
    have hne : ¬ f_X5_within (nI n) 1 40 = 0 := by rw [show f_X5_within (nI n) 1 40 = 1 from h1]; decide
    refine ⟨n, hn2, rfl, hne, ?_⟩
    rw [if_neg hne, h]
    by_cases hl : nB + n ≤ 9999
    · left
      have : nI nB + nI n ≤ 9999 := by rw [nI_add]; exact nI_le (b := 9999) hl (by omega)
      rw [if_pos this]; exact ⟨hl, this, rfl⟩
    · right
      have : ¬ nI nB + nI n ≤ 9999 := by rw [nI_add]; exact nI_ge (a := 9999) (by omega) (by omega)
      rw [if_neg this]; exact ⟨this, rfl⟩
theorem ok_beats {N : Nat} {uc um : zS} (hN : 300 ≤ N) (h : RR uc um) (a0 : Int32) : op_beats N RR uc um a0 := by
  unfold op_beats f_X5_beats f_X6_beats
  obtain ⟨nA, nF, nT, nB, kn, sl, hG⟩ := h.1
  have hG : RG uc um nA nF nT nB kn sl := hG
  rw [show f_X6_in a0.toInt64 1 40 = f_X5_within a0 1 40 from in_within a0 1 40, ol, hG.1.1.2.2.2.1]
  rcases ref_beats (hG.2.1.2.2.2.1.trans hG.1.1.2.2.2.1) hG.1.2.1.2.2.2.1 a0 with ⟨h0, h1⟩ | ⟨n, hn, rfl, h0, ⟨h1, h2, h3⟩ | ⟨h2, h3⟩⟩
  · rw [h1, if_neg (show ¬ (0 : Int32) ≤ -1 by decide), if_pos h0]; exact ⟨_, _, _, rfl, rfl, h⟩
  · rw [h3, if_pos (show (0 : Int32) ≤ 0 by decide), if_neg h0, if_pos h2]
    have key : ∀ (k i q q2 nB kn sl : Nat) (uc um : zS), i + k = n → k < q → k < q2 → nB + k ≤ 9999 → RG uc um nA nF nT nB kn sl → ∃ vc vm nB2 kn2 sl2, f_X5_beats_L14 N (nI n) q uc (nI i) = some vc ∧ f_X6_beats_L33 N (nI n) q2 um (nI i) = some vm ∧ RG vc vm nA nF nT nB2 kn2 sl2 ∧ FC uc vc ∧ FM um vm := by
      intro k
      induction k with
      | zero =>
        intro i q q2 nB kn sl uc um e1 e2 e3 e4 hG
        obtain ⟨q, rfl⟩ : ∃ z, q = z + 1 := ⟨q - 1, by omega⟩
        obtain ⟨q2, rfl⟩ : ∃ z, q2 = z + 1 := ⟨q2 - 1, by omega⟩
        have : i = n := by omega
        subst this
        refine ⟨uc, um, nB, kn, sl, ?_, ?_, hG, FC.rfl', FM.rfl'⟩
        · show f_X5_beats_L14_B N _ _ _ _ = _
          unfold f_X5_beats_L14_B
          rw [if_pos (nI_le (Nat.le_refl _) (by omega))]
        · show f_X6_beats_L33_B N _ _ _ _ = _
          unfold f_X6_beats_L33_B
          rw [if_pos (nI_le (Nat.le_refl _) (by omega))]
      | succ k ih =>
        intro i q q2 nB kn sl uc um e1 e2 e3 e4 hG
        obtain ⟨q, rfl⟩ : ∃ z, q = z + 1 := ⟨q - 1, by omega⟩
        obtain ⟨q2, rfl⟩ : ∃ z, q2 = z + 1 := ⟨q2 - 1, by omega⟩
        obtain ⟨vc, vm, p1, p2, p3, p4, p5, -⟩ := RG_note hN hG
        obtain ⟨wc, wm, r1, r2, r3, r4, r5⟩ := RG_dance hN (by omega) p3
        obtain ⟨xc, xm, nB2, kn2, sl2, t1, t2, t3, t4, t5⟩ := ih (i + 1) q q2 _ _ _ wc wm (by omega) (by omega) (by omega) (by omega) r3
        refine ⟨xc, xm, nB2, kn2, sl2, ?_, ?_, t3, (p4.trans r4).trans t4, (p5.trans r5).trans t5⟩
        · show f_X5_beats_L14_B N _ _ _ _ = _
          unfold f_X5_beats_L14_B
          rw [if_neg (nI_ge (by omega) (by omega)), p1, ob_s, r1, ob_s, show nI i + 1 = nI (i + 1) from nI_1 i]; exact t1
        · show f_X6_beats_L33_B N _ _ _ _ = _
          unfold f_X6_beats_L33_B
          rw [if_neg (nI_ge (by omega) (by omega)), p2, ob_s, r2, ob_s, show nI i + 1 = nI (i + 1) from nI_1 i]; exact t2
    obtain ⟨vc, vm, nB2, kn2, sl2, t1, t2, t3, t4, t5⟩ := key n 0 N N nB kn sl uc um (by omega) (by omega) (by omega) (by omega) hG
    obtain ⟨s1, s2⟩ := RG_stand hN t3
    rw [show f_X5_beats_L14 N (nI n) N uc 0 = some vc from t1, show f_X6_beats_L33 N (nI n) N um 0 = some vm from t2, ob_s, ob_s, s1, s2]
    exact ⟨_, _, _, rfl, rfl, RR_now h (RG.rg t3) t4 t5⟩
  · rw [h3, if_neg (show ¬ (0 : Int32) ≤ -3 by decide), if_neg h0, if_neg h2]; exact ⟨_, _, _, rfl, rfl, h⟩
