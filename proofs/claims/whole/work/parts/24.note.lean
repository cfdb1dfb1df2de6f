/-! what is minded and undone: the class's slots in turn, the reference's row -/
def RG (uc um : zS) (nA nF nT nB kn sl : Nat) : Prop := okW (um.1 1) nA nF nT nB kn ∧ cR 1 uc (um.1 1) nA nF nT kn sl
theorem cpB_t {a d n n0 n1 : Nat} (h0 : a + n ≤ n0) (h1 : d + n ≤ n1) (hn0 : n0 < 2 ^ 31) (hn1 : n1 < 2 ^ 31) : cpB (nI a) (nI d) (nI n) n0 n1 = true := by
  simp only [cpB, Bool.and_eq_true, Bool.not_eq_true', decide_eq_false_iff_not, decide_eq_true_eq]
  rw [nI_clamp (by omega), nI_clamp (by omega), nI_clamp (by omega)]
  exact ⟨⟨⟨⟨nI_pos (by omega), nI_pos (by omega)⟩, nI_pos (by omega)⟩, h0⟩, h1⟩
theorem og_cpN {α : Type} {a d n n0 n1 : Nat} {x : Option α} (h0 : a + n ≤ n0) (h1 : d + n ≤ n1) (hn0 : n0 < 2 ^ 31) (hn1 : n1 < 2 ^ 31) : og (cpB (nI a) (nI d) (nI n) n0 n1) x = x := by rw [cpB_t h0 h1 hn0 hn1]; rfl
theorem bring_eq {N : Nat} {u : zS} {a d n : Nat} (hN : n < N) (h0 : a + n ≤ 279) (h1 : d + n ≤ 279) (hd : d ≤ a ∨ a + n ≤ d) : ∃ v, f_X6_bring N u (nI a) (nI d) (nI n) = some v ∧ v.2 = u.2 ∧ (∀ c, c ≠ 1 → v.1 c = u.1 c) ∧ ∀ k, v.1 1 k = if d ≤ k ∧ k < d + n then u.1 1 (a + (k - d)) else u.1 1 k := by
  have key : ∀ (k i m : Nat) (w : zS), i + k = n → k < m → w.2 = u.2 → (∀ c, c ≠ 1 → w.1 c = u.1 c) → (∀ j, w.1 1 j = if d ≤ j ∧ j < d + i then u.1 1 (a + (j - d)) else u.1 1 j) → ∃ v, f_X6_bring_L3 N (nI a) (nI d) (nI n) m w (nI i) = some v ∧ v.2 = u.2 ∧ (∀ c, c ≠ 1 → v.1 c = u.1 c) ∧ ∀ k, v.1 1 k = if d ≤ k ∧ k < d + n then u.1 1 (a + (k - d)) else u.1 1 k := by
    intro k
    induction k with
    | zero =>
      intro i m w e1 e2 e3 e4 e5
      obtain ⟨m, rfl⟩ : ∃ q, m = q + 1 := ⟨m - 1, by omega⟩
      have : i = n := by omega
      subst this
      refine ⟨w, ?_, e3, e4, e5⟩
      show f_X6_bring_L3_B N _ _ _ _ _ _ = _
      unfold f_X6_bring_L3_B
      rw [if_pos (nI_le (Nat.le_refl _) (by omega))]
    | succ k ih =>
      intro i m w e1 e2 e3 e4 e5
      obtain ⟨m, rfl⟩ : ∃ q, m = q + 1 := ⟨m - 1, by omega⟩
      show ∃ v, f_X6_bring_L3_B N _ _ _ _ _ _ = _ ∧ _
      unfold f_X6_bring_L3_B
      rw [if_neg (nI_ge (by omega) (by omega)), nI_add, nI_add, og_nI (by omega) (by omega), og_nI (by omega) (by omega), nI_clamp (by omega), nI_clamp (by omega), ol, show nI i + 1 = nI (i + 1) from nI_1 i]
      refine ih (i + 1) m _ (by omega) (by omega) (by rw [wI_2]; exact e3) (fun c hc => by rw [wI_ne hc]; exact e4 c hc) (fun j => ?_)
      rw [wI_at]
      by_cases hj : j = d + i
      · subst hj
        rw [pk_us, if_pos (by omega), e5, if_neg (by omega)]
        exact congrArg (u.1 1) (by omega)
      · rw [pk_un hj, e5]
        by_cases hj2 : d ≤ j ∧ j < d + i
        · rw [if_pos hj2, if_pos (by omega)]
        · rw [if_neg hj2, if_neg (by omega)]
  obtain ⟨v, h2, h3⟩ := key n 0 N u (by omega) hN rfl (fun _ _ => rfl) (fun j => by rw [if_neg (by omega)])
  refine ⟨v, ?_, h3⟩
  unfold f_X6_bring
  rw [show (0 : Int32) = nI 0 from rfl, h2]
  rfl
theorem note_eq {uc : zS} {sl kn : Nat} (h3 : uc.1 7 3 = nI sl) (hs : sl < 8) (h4 : uc.1 7 4 = nI kn) (hk : kn ≤ 8) : ∃ vc, f_X0_note 1 uc = some vc ∧ vc.2 = uc.2 ∧ (∀ c, c ≠ 7 → c ≠ 8 → c ≠ 9 → c ≠ 10 → vc.1 c = uc.1 c) ∧ vc.1 7 3 = nI ((sl + 1) % 8) ∧ vc.1 7 4 = nI (if kn < 8 then kn + 1 else 8) ∧ (∀ k, vc.1 8 k = if sl * 8 ≤ k ∧ k < sl * 8 + 8 then uc.1 2 (k - sl * 8) else uc.1 8 k) ∧ (∀ k, vc.1 9 k = if k = sl then uc.1 1 9 else uc.1 9 k) ∧ (∀ k, vc.1 10 k = if k = sl then uc.1 1 10 else uc.1 10 k) := by
  unfold f_X0_note
  simp only [ol]
  have e8 : uc.1 (1 + 6) 3 * 8 = nI (sl * 8) := by rw [show uc.1 (1 + 6) 3 = nI sl from h3]; exact pk_mul sl 8
  rw [e8, show og (cpB 0 (nI (sl * 8)) 8 8 64) = og (cpB (nI 0) (nI (sl * 8)) (nI 8) 8 64) (α := zS) from rfl, og_cpN (by omega) (by omega) (by omega) (by omega), nI_clamp (by omega)]
  generalize hu2 : cpI uc (1 + 1) 0 (1 + 7) (sl * 8) 8 = u2
  have r7 : ∀ j, u2.1 (1 + 6) j = uc.1 7 j := fun j => by rw [← hu2]; rfl
  have r1 : ∀ j, u2.1 1 j = uc.1 1 j := fun j => by rw [← hu2]; rfl
  rw [r7 3, h3, og_nI (by omega) (by omega), nI_clamp (by omega), r1 9]
  generalize hu4 : wI u2 (1 + 8) sl (uc.1 1 9) = u4
  have s7 : ∀ j, u4.1 (1 + 6) j = uc.1 7 j := fun j => by rw [← hu4, wI_ne (by omega)]; exact r7 j
  have s1 : ∀ j, u4.1 1 j = uc.1 1 j := fun j => by rw [← hu4, wI_ne (by omega)]; exact r1 j
  rw [s7 3, h3, og_nI (by omega) (by omega), nI_clamp (by omega), s1 10]
  generalize hu6 : wI u4 (1 + 9) sl (uc.1 1 10) = u6
  have t7 : ∀ j, u6.1 (1 + 6) j = uc.1 7 j := fun j => by rw [← hu6, wI_ne (by omega)]; exact s7 j
  rw [t7 3, h3, show nI sl + 1 = nI (sl + 1) from nI_1 sl, show nI (sl + 1) - nI (sl + 1) / 8 * 8 = nI ((sl + 1) % 8) from pk_rem (a := sl + 1) (d := 8) (by omega) (by omega) (by omega)]
  have t74 : (wI u6 (1 + 6) 3 (nI ((sl + 1) % 8))).1 (1 + 6) 4 = nI kn := by rw [wI_at, pk_un (by omega)]; exact (t7 4).trans h4
  rw [t74, show nI kn + 1 = nI (kn + 1) from nI_1 kn]
  have emin : (if 8 < nI (kn + 1) then 8 else nI (kn + 1)) = nI (if kn < 8 then kn + 1 else 8) := by
    by_cases hk8 : kn < 8
    · rw [if_neg (show ¬ (8 : Int32) < nI (kn + 1) from nI_nlt (a := 8) (b := kn + 1) (by omega) (by omega)), if_pos hk8]
    · rw [if_pos (show (8 : Int32) < nI (kn + 1) from nI_lt (a := 8) (b := kn + 1) (by omega) (by omega)), if_neg hk8]; rfl
  rw [emin]
  refine ⟨_, rfl, ?_, fun c c1 c2 c3 c4 => ?_, ?_, ?_, fun k => ?_, fun k => ?_, fun k => ?_⟩
  · rw [wI_2, wI_2, ← hu6, wI_2, ← hu4, wI_2, ← hu2, cpI_2]
  · rw [wI_ne (by omega), wI_ne (by omega), ← hu6, wI_ne (by omega), ← hu4, wI_ne (by omega), ← hu2]
    funext j
    rw [cpI_1, if_neg (by omega)]
  · rw [show (7 : Nat) = 1 + 6 from rfl, wI_at, pk_un (by omega), wI_at, pk_us]
  · rw [show (7 : Nat) = 1 + 6 from rfl, wI_at, pk_us]
  · rw [wI_ne (by omega), wI_ne (by omega), ← hu6, wI_ne (by omega), ← hu4, wI_ne (by omega), ← hu2, cpI_1, if_pos rfl]
    by_cases hk1 : sl * 8 ≤ k ∧ k < sl * 8 + 8
    · rw [if_pos hk1, if_pos hk1, Nat.zero_add]
    · rw [if_neg hk1, if_neg hk1]
  · rw [wI_ne (by omega), wI_ne (by omega), ← hu6, wI_ne (by omega), ← hu4, wI_1, if_pos rfl, ← hu2]
    rfl
  · rw [wI_ne (by omega), wI_ne (by omega), ← hu6, wI_1, if_pos rfl, ← hu4, wI_ne (by omega), ← hu2]
    rfl
theorem minds_eq {N : Nat} {um : zS} {kn : Nat} (hN : 300 ≤ N) (h4 : um.1 1 39 = nI kn) (hk : kn ≤ 8) : ∃ vm, f_X6_minds N um = some vm ∧ vm.2 = um.2 ∧ (∀ c, c ≠ 1 → vm.1 c = um.1 c) ∧ (∀ k, k < 39 ∨ 120 ≤ k → vm.1 1 k = um.1 1 k) ∧ vm.1 1 39 = nI (if kn < 8 then kn + 1 else 8) ∧ (∀ k, 40 ≤ k → k < 40 + 10 * (if kn < 8 then kn else 7) → vm.1 1 k = um.1 1 (if kn < 8 then k else k + 10)) ∧ ∀ i, i < 10 → vm.1 1 (40 + 10 * (if kn < 8 then kn else 7) + i) = um.1 1 (3 + i) := by
  have fin : ∀ (w : zS) (q : Nat), q < 8 → w.1 1 39 = nI q → ∃ vm, f_X6_minds_J33 N w = some vm ∧ vm.2 = w.2 ∧ (∀ c, c ≠ 1 → vm.1 c = w.1 c) ∧ vm.1 1 39 = nI (q + 1) ∧ ∀ k, k ≠ 39 → vm.1 1 k = if 40 + 10 * q ≤ k ∧ k < 40 + 10 * q + 10 then w.1 1 (3 + (k - (40 + 10 * q))) else w.1 1 k := by
    intro w q hq e
    unfold f_X6_minds_J33
    rw [e, show (10 : Int32) * nI q = nI (10 * q) from pk_mul 10 q, show (40 : Int32) + nI (10 * q) = nI (40 + 10 * q) from nI_add 40 (10 * q)]
    obtain ⟨v, g1, g2, g3, g4⟩ := bring_eq (N := N) (u := w) (a := 3) (d := 40 + 10 * q) (n := 10) (by omega) (by omega) (by omega) (by omega)
    rw [show f_X6_bring N w 3 (nI (40 + 10 * q)) 10 = some v from g1, ob_s, ol]
    have g5 : v.1 1 39 = nI q := by rw [g4, if_neg (by omega)]; exact e
    rw [g5]
    refine ⟨_, rfl, by rw [wI_2]; exact g2, fun c hc => by rw [wI_ne hc]; exact g3 c hc, by rw [wI_at, pk_us]; exact nI_1 q, fun k hk2 => by rw [wI_at, pk_un hk2]; exact g4 k⟩
  unfold f_X6_minds
  by_cases hk8 : kn < 8
  · have hne : ¬ um.1 1 39 = 8 := by
      rw [h4]; exact fun q => by have := (nI_eq (a := kn) (b := 8) (by omega) (by omega)).mp q; omega
    rw [if_neg hne]
    obtain ⟨vm, g1, g2, g3, g4, g5⟩ := fin um kn hk8 h4
    simp only [if_pos hk8]
    exact ⟨vm, g1, g2, g3, fun k hk2 => by rw [g5 k (by omega), if_neg (by omega)], g4, fun k k1 k2 => by rw [g5 k (by omega), if_neg (by omega)], fun i hi => by rw [g5 _ (by omega), if_pos (by omega)]; exact congrArg (um.1 1) (by omega)⟩
  · have e8 : kn = 8 := by omega
    subst e8
    rw [if_pos (show um.1 1 39 = 8 from h4)]
    obtain ⟨v, g1, g2, g3, g4⟩ := bring_eq (N := N) (u := um) (a := 50) (d := 40) (n := 70) (by omega) (by omega) (by omega) (by omega)
    rw [show f_X6_bring N um 50 40 70 = some v from g1, ob_s, ol]
    have g5 : v.1 1 39 = nI 8 := by rw [g4, if_neg (by omega)]; exact h4
    rw [g5, show nI 8 - 1 = nI 7 from by decide]
    obtain ⟨vm, k1, k2, k3, k4, k5⟩ := fin (wI v 1 39 (nI 7)) 7 (by omega) (by rw [wI_at, pk_us])
    simp only [if_neg hk8]
    refine ⟨vm, k1, by rw [k2, wI_2]; exact g2, fun c hc => by rw [k3 c hc, wI_ne hc]; exact g3 c hc, fun k hk2 => ?_, k4, fun k a1 a2 => ?_, fun i hi => ?_⟩
    · rw [k5 k (by omega), if_neg (by omega), wI_at, pk_un (by omega), g4, if_neg (by omega)]
    · rw [k5 k (by omega), if_neg (by omega), wI_at, pk_un (by omega), g4, if_pos (by omega)]; exact congrArg (um.1 1) (by omega)
    · rw [k5 _ (by omega), if_pos (by omega), wI_at, pk_un (by omega), g4, if_neg (by omega)]; exact congrArg (um.1 1) (by omega)
theorem RG_note {N : Nat} {uc um : zS} {nA nF nT nB kn sl : Nat} (hN : 300 ≤ N) (h : RG uc um nA nF nT nB kn sl) : ∃ vc vm, f_X0_note 1 uc = some vc ∧ f_X6_minds N um = some vm ∧ RG vc vm nA nF nT nB (if kn < 8 then kn + 1 else 8) ((sl + 1) % 8) ∧ FC uc vc ∧ FM um vm ∧ vc.1 1 = uc.1 1 ∧ vc.1 2 = uc.1 2 ∧ (∀ k, k < 39 → vm.1 1 k = um.1 1 k) := by
  obtain ⟨⟨⟨a1, a2, a3, a4, a5⟩, ⟨b1, b2, b3, b4, b5⟩, c1, c2, c3, c4, c5⟩, ⟨⟨d1, d2, d3, d4, d5, d6, d7, d8⟩, e2, e3, e4, e5⟩⟩ := h
  obtain ⟨vc, p1, p2, p3, p4, p5, p6, p7, p8⟩ := note_eq (uc := uc) (sl := sl) (kn := kn) d7 d8 (d6.trans a5) b5
  obtain ⟨vm, q1, q2, q3, q4, q5, q6, q7⟩ := minds_eq (N := N) (um := um) (kn := kn) hN a5 b5
  have v1 : vc.1 1 = uc.1 1 := p3 1 (by omega) (by omega) (by omega) (by omega)
  have v2 : vc.1 2 = uc.1 2 := p3 2 (by omega) (by omega) (by omega) (by omega)
  -- the rows of the reference, one by one
  have rowO : ∀ j, j < (if kn < 8 then kn else 7) → ∀ i, i < 10 → vm.1 1 (40 + 10 * j + i) = um.1 1 (40 + 10 * (if kn < 8 then j else j + 1) + i) := by
    intro j hj i hi
    by_cases hk8 : kn < 8
    · simp only [if_pos hk8] at hj q6 ⊢
      exact q6 _ (by omega) (by omega)
    · simp only [if_neg hk8] at hj q6 ⊢
      rw [q6 _ (by omega) (by omega)]; exact congrArg (um.1 1) (by omega)
  have okV : okW (vm.1 1) nA nF nT nB (if kn < 8 then kn + 1 else 8) := by
    refine ⟨⟨by rw [q4 _ (by omega)]; exact a1, by rw [q4 _ (by omega)]; exact a2, by rw [q4 _ (by omega)]; exact a3, by rw [q4 _ (by omega)]; exact a4, q5⟩, ⟨b1, b2, b3, b4, by split <;> omega⟩, by rw [q4 _ (by omega)]; exact c1, fun i hi => by rw [q4 _ (by omega)]; exact c2 i hi, fun i hi => by rw [q4 _ (by omega), q4 _ (by omega)]; exact c3 i hi, fun i hi => by rw [q4 _ (by omega)]; exact c4 i hi, fun j hj => ?_⟩
    by_cases hl : j < (if kn < 8 then kn else 7)
    · have w0 := rowO j hl 0 (by omega)
      have w1 := rowO j hl 1 (by omega)
      have hj2 : (if kn < 8 then j else j + 1) < kn := by by_cases hk8 : kn < 8 <;> simp only [hk8, if_true, if_false] at hl ⊢ <;> omega
      obtain ⟨x1, x2, x3⟩ := c5 _ hj2
      refine ⟨by rw [show 40 + 10 * j = 40 + 10 * j + 0 from rfl, w0]; exact x1, by rw [show 41 + 10 * j = 40 + 10 * j + 1 by omega, w1, show 40 + 10 * (if kn < 8 then j else j + 1) + 1 = 41 + 10 * (if kn < 8 then j else j + 1) by omega]; exact x2, fun i hi => ?_⟩
      rw [show 42 + 10 * j + i = 40 + 10 * j + (2 + i) by omega, rowO j hl (2 + i) (by omega), show 40 + 10 * (if kn < 8 then j else j + 1) + (2 + i) = 42 + 10 * (if kn < 8 then j else j + 1) + i by omega]
      exact x3 i hi
    · have hj3 : j = (if kn < 8 then kn else 7) := by by_cases hk8 : kn < 8 <;> simp only [hk8, if_true, if_false] at hj hl ⊢ <;> omega
      subst hj3
      refine ⟨⟨nB, b4, ?_⟩, ?_, fun i hi => ?_⟩
      · have := q7 0 (by omega); rw [Nat.add_zero] at this; rw [this]; exact a4
      · have := q7 1 (by omega); rw [show 41 + 10 * (if kn < 8 then kn else 7) = 40 + 10 * (if kn < 8 then kn else 7) + 1 by omega, this]; exact c1
      · have := q7 (2 + i) (by omega); rw [show 42 + 10 * (if kn < 8 then kn else 7) + i = 40 + 10 * (if kn < 8 then kn else 7) + (2 + i) by omega, this, show 3 + (2 + i) = 5 + i by omega]; exact c2 i hi
  refine ⟨vc, vm, p1, q1, ⟨okV, ?_⟩, ⟨p3 0 (by omega) (by omega) (by omega) (by omega), fun c g1 g2 => p3 c (by omega) (by omega) (by omega) (by omega), p3 31 (by omega) (by omega) (by omega) (by omega), p3 32 (by omega) (by omega) (by omega) (by omega), p3 34 (by omega) (by omega) (by omega) (by omega), p3 35 (by omega) (by omega) (by omega) (by omega), by rw [p2]⟩, ⟨by rw [q3 0 (by omega)], by rw [q3 0 (by omega)], q3 2 (by omega), q3 4 (by omega), q3 5 (by omega), by rw [q2], fun k g1 g2 => q4 k (by omega)⟩, v1, v2, fun k hk => q4 k (by omega)⟩
  refine ⟨⟨by rw [v1, q4 _ (by omega)]; exact d1, by rw [v1, q4 _ (by omega)]; exact d2, by rw [v1, q4 _ (by omega)]; exact d3, by rw [v1, q4 _ (by omega)]; exact d4, by rw [v1, q4 _ (by omega)]; exact d5, by rw [q5]; exact p5, p4, by omega⟩, fun i hi => by rw [q4 _ (by omega)]; show vc.1 2 i = _; rw [v2]; exact e2 i hi, fun i hi => ?_, fun i hi => by rw [q4 _ (by omega), p3 (1 + 5) (by omega) (by omega) (by omega) (by omega)]; exact e4 i hi, fun j hj => ?_⟩
  · rw [q4 (13 + i) (by omega), q4 (18 + i) (by omega), p3 (1 + 2) (by omega) (by omega) (by omega) (by omega), p3 (1 + 3) (by omega) (by omega) (by omega) (by omega), p3 (1 + 4) (by omega) (by omega) (by omega) (by omega)]
    exact e3 i hi
  · by_cases hl : j < (if kn < 8 then kn else 7)
    · have hj2 : (if kn < 8 then j else j + 1) < kn := by by_cases hk8 : kn < 8 <;> simp only [hk8, if_true, if_false] at hl ⊢ <;> omega
      have hslot : ((sl + 1) % 8 + 8 - (if kn < 8 then kn + 1 else 8) + j) % 8 = (sl + 8 - kn + (if kn < 8 then j else j + 1)) % 8 := by by_cases hk8 : kn < 8 <;> simp only [hk8, if_true, if_false] at hl hj ⊢ <;> omega
      have hns : (sl + 8 - kn + (if kn < 8 then j else j + 1)) % 8 ≠ sl := by by_cases hk8 : kn < 8 <;> simp only [hk8, if_true, if_false] at hl hj ⊢ <;> omega
      obtain ⟨x1, x2, x3⟩ := e5 _ hj2
      rw [hslot]
      generalize hS : (sl + 8 - kn + (if kn < 8 then j else j + 1)) % 8 = S at x1 x2 x3 hns
      have hS8 : S < 8 := by omega
      refine ⟨?_, ?_, fun i hi => ?_⟩
      · show vc.1 9 S = _
        rw [p7, if_neg hns, show 40 + 10 * j = 40 + 10 * j + 0 from rfl, rowO j hl 0 (by omega)]; exact x1
      · show vc.1 10 S = _
        rw [p8, if_neg hns, show 41 + 10 * j = 40 + 10 * j + 1 by omega, rowO j hl 1 (by omega), show 40 + 10 * (if kn < 8 then j else j + 1) + 1 = 41 + 10 * (if kn < 8 then j else j + 1) by omega]; exact x2
      · show vc.1 8 _ = _
        rw [p6, if_neg (by omega), show 42 + 10 * j + i = 40 + 10 * j + (2 + i) by omega, rowO j hl (2 + i) (by omega), show 40 + 10 * (if kn < 8 then j else j + 1) + (2 + i) = 42 + 10 * (if kn < 8 then j else j + 1) + i by omega]; exact x3 i hi
    · have hj3 : j = (if kn < 8 then kn else 7) := by by_cases hk8 : kn < 8 <;> simp only [hk8, if_true, if_false] at hj hl ⊢ <;> omega
      have hslot : ((sl + 1) % 8 + 8 - (if kn < 8 then kn + 1 else 8) + j) % 8 = sl := by by_cases hk8 : kn < 8 <;> simp only [hk8, if_true, if_false] at hj3 ⊢ <;> omega
      rw [hslot]
      subst hj3
      refine ⟨?_, ?_, fun i hi => ?_⟩
      · show vc.1 9 sl = _
        have := q7 0 (by omega); rw [Nat.add_zero] at this
        rw [p7, if_pos rfl, this]; exact d4
      · show vc.1 10 sl = _
        rw [p8, if_pos rfl, show 41 + 10 * (if kn < 8 then kn else 7) = 40 + 10 * (if kn < 8 then kn else 7) + 1 by omega, q7 1 (by omega)]; exact d5
      · show vc.1 8 _ = _
        rw [p6, if_pos (by omega), show 8 * sl + i - sl * 8 = i by omega, show 42 + 10 * (if kn < 8 then kn else 7) + i = 40 + 10 * (if kn < 8 then kn else 7) + (2 + i) by omega, q7 (2 + i) (by omega), show 3 + (2 + i) = 5 + i by omega]; exact e2 i hi
