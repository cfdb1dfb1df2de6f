/-! back -/
def lF (pr : Nat → Nat) : Nat → Nat
  | 0 => 1
  | a + 1 => Nat.lcm (lF pr a) (pr a)
theorem lF_dvd (pr : Nat → Nat) (n : Nat) : ∀ m, (∀ a, a < m → pr a ∣ n) ↔ lF pr m ∣ n
  | 0 => ⟨fun _ => Nat.one_dvd n, fun _ a h => absurd h (by omega)⟩
  | m + 1 => by
    have ih := lF_dvd pr n m
    constructor
    · intro h
      exact Nat.lcm_dvd (ih.mp fun a ha => h a (by omega)) (h m (by omega))
    · intro h a ha
      by_cases e : a = m
      · subst e; exact Nat.dvd_trans (Nat.dvd_lcm_right _ _) h
      · exact ih.mpr (Nat.dvd_trans (Nat.dvd_lcm_left _ _) h) a (by omega)
theorem pr_ex {W : Nat → Int32} {nA nF nT nB kn : Nat} (h : okW W nA nF nT nB kn) : ∃ pr : Nat → Nat, ∀ a, a < nA → isP W nT nB (W (5 + a)) (pr a) :=
  ⟨fun a => if ha : a < nA then (per_ex h nB (h.2.2.2.1 a ha)).choose else 0, fun a ha => by simp only [dif_pos ha]; exact (per_ex h nB (h.2.2.2.1 a ha)).choose_spec⟩
theorem allC {N : Nat} {uc : zS} {W : Nat → Int32} {nA nF nT nB kn sl : Nat} {pr : Nat → Nat} (hN : 300 ≤ N) (ho : okW W nA nF nT nB kn) (hc : cR 1 uc W nA nF nT kn sl) (hp : ∀ a, a < nA → isP W nT nB (W (5 + a)) (pr a)) : lF pr nA ∣ 840 ∧ f_X5_roundsTillAllBack N uc = some (nI (lF pr nA)) := by
  have hA := ho.2.1.1
  have l6 : uc.1 1 6 = nI nA := hc.1.1.trans ho.1.1
  have key : ∀ (n a m : Nat), a + n = nA → n < m → lF pr a ∣ 840 → lF pr nA ∣ 840 ∧ f_X5_roundsTillAllBack_L4 N uc m (nI (lF pr a)) (nI a) = some (nI (lF pr nA)) := by
    intro n
    induction n with
    | zero =>
      intro a m h1 h2 h3
      obtain ⟨m, rfl⟩ : ∃ z, m = z + 1 := ⟨m - 1, by omega⟩
      have : a = nA := by omega
      subst this
      refine ⟨h3, ?_⟩
      show f_X5_roundsTillAllBack_L4_B N _ _ _ _ = _
      unfold f_X5_roundsTillAllBack_L4_B
      rw [l6, if_pos (nI_le (Nat.le_refl _) (by omega))]
    | succ n ih =>
      intro a m h1 h2 h3
      obtain ⟨m, rfl⟩ : ∃ z, m = z + 1 := ⟨m - 1, by omega⟩
      have hpa := hp a (by omega)
      have e : uc.1 2 a = W (5 + a) := hc.2.1 a (by omega)
      have hv := ho.2.2.2.1 a (by omega)
      obtain ⟨f1, f2⟩ := fold_eq (N := N) (m := lF pr a) (t := pr a) (by omega) h3 hpa.1 hpa.2.1 (fun w => f_X5_roundsTillAllBack_L4 N uc m w (nI (a + 1)))
      obtain ⟨g1, g2⟩ := ih (a + 1) m (by omega) (by omega) f1
      refine ⟨g1, ?_⟩
      show f_X5_roundsTillAllBack_L4_B N _ _ _ _ = _
      unfold f_X5_roundsTillAllBack_L4_B
      rw [l6, if_neg (nI_ge (by omega) (by omega)), og_nI (by omega) (by omega), nI_clamp (by omega), e, rounds_eq hN ho hc.t (hc.1.2.2.2.1.trans ho.1.2.2.2.1) hv hpa, ob_s, show nI a + 1 = nI (a + 1) from nI_1 a, f2]
      exact g2
  obtain ⟨g1, g2⟩ := key nA 0 N (by omega) (by omega) (Nat.one_dvd 840)
  refine ⟨g1, ?_⟩
  unfold f_X5_roundsTillAllBack
  rw [show f_X5_roundsTillAllBack_L4 N uc N 1 0 = _ from g2]
  rfl
theorem backM {N : Nat} {um : zS} {nA nF nT nB kn D : Nat} {pr : Nat → Nat} (hN : 1000 ≤ N) (ho : okW (um.1 1) nA nF nT nB kn) (h0 : 0 < nT) (hp : ∀ a, a < nA → isP (um.1 1) nT nB (um.1 1 (5 + a)) (pr a)) (v1 : Int32) (hD : 1 ≤ D) (hD2 : D ≤ 840) (hdv : ∀ n, (∀ a, a < nA → (v1 = -1 ∨ nI a = v1) → pr a ∣ n) ↔ D ∣ n) : f_X6_back_L30 N um v1 N 0 0 = some (nI D) := by
  have hA := ho.2.1.1
  have inner : ∀ (n : Nat), n ≤ 840 → ∀ (k a m : Nat) (fl : Int32), a + k = nA → k < m → ((fl = 1 ∧ ∀ z, z < a → (v1 = -1 ∨ nI z = v1) → pr z ∣ n) ∨ (fl = 0 ∧ ¬ ∀ z, z < a → (v1 = -1 ∨ nI z = v1) → pr z ∣ n)) → ∃ fl2, f_X6_back_L42 N um v1 (nI n) m fl (nI a) = some fl2 ∧ ((fl2 = 1 ∧ ∀ z, z < nA → (v1 = -1 ∨ nI z = v1) → pr z ∣ n) ∨ (fl2 = 0 ∧ ¬ ∀ z, z < nA → (v1 = -1 ∨ nI z = v1) → pr z ∣ n)) := by
    intro n hn k
    induction k with
    | zero =>
      intro a m fl h1 h2 h3
      obtain ⟨m, rfl⟩ : ∃ z, m = z + 1 := ⟨m - 1, by omega⟩
      have : a = nA := by omega
      subst this
      refine ⟨fl, ?_, h3⟩
      show f_X6_back_L42_B N _ _ _ _ _ _ = _
      unfold f_X6_back_L42_B
      rw [ho.1.1, if_pos (nI_le (Nat.le_refl _) (by omega))]
    | succ k ih =>
      intro a m fl h1 h2 h3
      obtain ⟨m, rfl⟩ : ∃ z, m = z + 1 := ⟨m - 1, by omega⟩
      have hpa := hp a (by omega)
      have hv := ho.2.2.2.1 a (by omega)
      have stay : ((v1 = -1 ∨ nI a = v1) → pr a ∣ n) → ((fl = 1 ∧ ∀ z, z < a + 1 → (v1 = -1 ∨ nI z = v1) → pr z ∣ n) ∨ (fl = 0 ∧ ¬ ∀ z, z < a + 1 → (v1 = -1 ∨ nI z = v1) → pr z ∣ n)) := by
        intro hh
        rcases h3 with ⟨h4, h5⟩ | ⟨h4, h5⟩
        · refine Or.inl ⟨h4, fun z hz => ?_⟩
          by_cases e : z = a
          · subst e; exact hh
          · exact h5 z (by omega)
        · exact Or.inr ⟨h4, fun q => h5 fun z hz => q z (by omega)⟩
      have fl01 : fl = 0 ∨ fl = 1 := h3.elim (fun q => Or.inr q.1) (fun q => Or.inl q.1)
      -- not counted: the flag stays
      have j0 : ((v1 = -1 ∨ nI a = v1) → pr a ∣ n) → ∃ fl2, f_X6_back_J83 N um v1 (nI n) (f_X6_back_L42 N um v1 (nI n) m) fl (nI a) 0 = some fl2 ∧ ((fl2 = 1 ∧ ∀ z, z < nA → (v1 = -1 ∨ nI z = v1) → pr z ∣ n) ∨ (fl2 = 0 ∧ ¬ ∀ z, z < nA → (v1 = -1 ∨ nI z = v1) → pr z ∣ n)) := by
        intro hh
        unfold f_X6_back_J83
        rw [show nI a + 1 = nI (a + 1) from nI_1 a]
        rcases fl01 with e | e
        · have x := ih (a + 1) m fl (by omega) (by omega) (stay hh)
          rw [if_pos e]; rw [e] at x; exact x
        · have x := ih (a + 1) m fl (by omega) (by omega) (stay hh)
          rw [if_neg (show ¬ fl = 0 by rw [e]; decide), if_pos rfl]; rw [e] at x; exact x
      have j1 : ¬ um.1 1 (5 + a) = -4 → (v1 = -1 ∨ nI a = v1) → ∃ fl2, f_X6_back_J83 N um v1 (nI n) (f_X6_back_L42 N um v1 (nI n) m) fl (nI a) 1 = some fl2 ∧ ((fl2 = 1 ∧ ∀ z, z < nA → (v1 = -1 ∨ nI z = v1) → pr z ∣ n) ∨ (fl2 = 0 ∧ ¬ ∀ z, z < nA → (v1 = -1 ∨ nI z = v1) → pr z ∣ n)) := by
        intro h4 hcnt
        unfold f_X6_back_J83
        rw [show nI a + 1 = nI (a + 1) from nI_1 a]
        rcases h3 with ⟨e, h5⟩ | ⟨e, h5⟩
        · rw [if_neg (show ¬ fl = 0 by rw [e]; decide), if_neg (show ¬ (1 : Int32) = 0 by decide), show (5 : Int32) + nI a = nI (5 + a) from nI_add 5 a, og_nI (by omega) (by omega), nI_clamp (by omega)]
          rcases hv with hv | ⟨p, hpp, hv⟩
          · exact absurd hv h4
          rw [hv] at hpa
          have q1 := hpa.1
          have q2 := hpa.2.1
          have hml := Nat.mod_lt n (show 0 < pr a by omega)
          rw [hv, ringOf_eq (by omega) ho h0 hpp hpa, ob_s, og_neN (by omega) (by omega), pk_rem (by omega) (by omega) (by omega)]
          by_cases hd : pr a ∣ n
          · rw [if_pos (show nI (n % pr a) = 0 by rw [Nat.mod_eq_zero_of_dvd hd]; rfl)]
            have x := ih (a + 1) m fl (by omega) (by omega) (stay fun _ => hd)
            rw [e] at x; exact x
          · have hne : ¬ n % pr a = 0 := fun q => hd (Nat.dvd_of_mod_eq_zero q)
            rw [if_neg (show ¬ nI (n % pr a) = 0 from nI_ne0 (by omega) (by omega))]
            exact ih (a + 1) m 0 (by omega) (by omega) (Or.inr ⟨rfl, fun q => hd (q a (by omega) hcnt)⟩)
        · rw [if_pos e]
          exact ih (a + 1) m 0 (by omega) (by omega) (Or.inr ⟨rfl, fun q => h5 fun z hz => q z (by omega)⟩)
      show ∃ fl2, f_X6_back_L42_B N _ _ _ _ _ _ = _ ∧ _
      unfold f_X6_back_L42_B f_X6_back_J82 f_X6_back_J78
      rw [ho.1.1, if_neg (nI_ge (by omega) (by omega)), show (5 : Int32) + nI a = nI (5 + a) from nI_add 5 a, og_nI (by omega) (by omega), nI_clamp (by omega)]
      by_cases h4 : um.1 1 (5 + a) = -4
      · rw [if_pos h4]
        refine j0 fun _ => ?_
        have : pr a = 1 := by
          have h1 := hpa.1
          by_cases e : pr a = 1
          · exact e
          · exfalso
            refine hpa.2.2.2 1 (by omega) (by omega) ?_
            rw [h4]; exact wk_gone _ _ _ _
        rw [this]; exact Nat.one_dvd n
      · rw [if_neg h4]
        by_cases hm1 : v1 = -1
        · rw [if_pos hm1]; exact j1 h4 (Or.inl hm1)
        · rw [if_neg hm1]
          by_cases hva : nI a = v1
          · rw [if_pos hva]; exact j1 h4 (Or.inr hva)
          · rw [if_neg hva]; exact j0 fun q => absurd q (fun q => q.elim hm1 hva)
  have outer : ∀ (k n m : Nat), n + k = D → k + 1 < m → f_X6_back_L30 N um v1 m (nI n) (if k = 0 then 1 else 0) = some (nI D) := by
    intro k
    induction k with
    | zero =>
      intro n m h1 h2
      obtain ⟨m, rfl⟩ : ∃ z, m = z + 1 := ⟨m - 1, by omega⟩
      have : n = D := by omega
      subst this
      show f_X6_back_L30_B N _ _ _ _ _ = _
      unfold f_X6_back_L30_B
      rw [if_pos rfl, if_neg (show ¬ (1 : Int32) = 0 by decide)]
    | succ k ih =>
      intro n m h1 h2
      obtain ⟨m, rfl⟩ : ∃ z, m = z + 1 := ⟨m - 1, by omega⟩
      show f_X6_back_L30_B N _ _ _ _ _ = _
      unfold f_X6_back_L30_B
      obtain ⟨fl, g1, g2⟩ := inner (n + 1) (by omega) nA 0 N 1 (by omega) (by omega) (Or.inl ⟨rfl, fun z hz => absurd hz (by omega)⟩)
      rw [if_neg (show ¬ k + 1 = 0 by omega), if_pos rfl, show nI n + 1 = nI (n + 1) from nI_1 n, show f_X6_back_L42 N um v1 (nI (n + 1)) N 1 0 = some fl from g1, ob_s]
      have hfl : fl = if k = 0 then 1 else 0 := by
        by_cases hk : k = 0
        · rw [if_pos hk]
          rcases g2 with ⟨g2, _⟩ | ⟨_, g3⟩
          · exact g2
          · exfalso
            refine g3 ((hdv (n + 1)).mpr ?_)
            rw [show n + 1 = D by omega]
            exact Nat.dvd_refl D
        · rw [if_neg hk]
          rcases g2 with ⟨_, g3⟩ | ⟨g2, _⟩
          · exfalso
            have := Nat.le_of_dvd (by omega) ((hdv (n + 1)).mp g3)
            omega
          · exact g2
      rw [hfl]
      exact ih (n + 1) m (by omega) (by omega)
  have := outer D 0 N (by omega) (by omega)
  rw [if_neg (by omega)] at this
  exact this
theorem ok_back {N : Nat} {uc um : zS} (hN : 1000 ≤ N) (h : RR uc um) (a0 : Int32) : op_back N RR uc um a0 := by
  unfold op_back f_X5_back f_X6_back f_X6_back_J15
  obtain ⟨nA, nF, nT, nB, kn, sl, hW, hc⟩ := h.1
  have a1 := hW.1.1
  have b1 := hW.2.1.1
  have b3 := hW.2.1.2.2.1
  have d1 := hc.1.1
  have l8 : uc.1 1 8 = nI nT := hc.1.2.2.1.trans hW.1.2.2.1
  obtain ⟨pr, hp⟩ := pr_ex hW
  rw [l8, hW.1.2.2.1]
  by_cases hm1 : a0 = -1
  · obtain ⟨g1, g2⟩ := allC (N := N) (by omega) hW hc hp
    have g3 := Nat.le_of_dvd (by omega) g1
    have g4 := Nat.pos_of_dvd_of_pos g1 (by omega)
    rw [if_pos hm1, if_pos hm1, g2, ob_s, pk_mul]
    by_cases h0 : nT = 0
    · subst h0
      rw [if_pos (show nI 0 = (0 : Int32) by decide), Nat.zero_mul]; exact ⟨_, rfl, rfl, h⟩
    · rw [if_neg (show ¬ nI nT = (0 : Int32) from nI_ne0 (by omega) (by omega)), backM hN hW (by omega) hp a0 g4 g3 (fun n => ⟨fun q => (lF_dvd pr n nA).mp fun a ha => q a ha (Or.inl hm1), fun q a ha _ => (lF_dvd pr n nA).mpr q a ha⟩), ob_s, pk_mul, Nat.mul_comm]
      exact ⟨_, rfl, rfl, h⟩
  rw [if_neg hm1, if_neg hm1, isAngel_eq a1 (d1.trans a1) (by omega)]
  rcases hasA (d1.trans a1) (by omega) a0 with h0 | ⟨i, hi, rfl, h1⟩
  · rw [if_pos h0, if_pos h0]; exact ⟨_, rfl, rfl, h⟩
  have h1n : ¬ f_X1_hasAngel 1 uc (nI i) = 0 := by rw [h1]; decide
  have e : uc.1 2 i = um.1 1 (5 + i) := hc.2.1 i hi
  have hpi := hp i hi
  have p1 := hpi.1
  have p2 := hpi.2.1
  rw [if_neg h1n, if_neg h1n, og_nI (by omega) (by omega), nI_clamp (by omega), e, rounds_eq (by omega) hW hc.t (hc.1.2.2.2.1.trans hW.1.2.2.2.1) (hW.2.2.2.1 i hi) hpi, ob_s, pk_mul]
  by_cases h0 : nT = 0
  · subst h0
    rw [if_pos (show nI 0 = (0 : Int32) by decide), Nat.zero_mul]; exact ⟨_, rfl, rfl, h⟩
  · rw [if_neg (show ¬ nI nT = (0 : Int32) from nI_ne0 (by omega) (by omega)), backM hN hW (by omega) hp (nI i) p1 (by omega) (fun n => ⟨fun q => q i hi (Or.inr rfl), fun q a ha hh => ?_⟩), ob_s, pk_mul, Nat.mul_comm]
    · exact ⟨_, rfl, rfl, h⟩
    · rcases hh with hh | hh
      · exact absurd hh hm1
      · rw [(nI_eq (by omega) (by omega)).mp hh]; exact q
