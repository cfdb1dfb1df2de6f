/-! chance -/
theorem for_loop {σ : Type} {L : Nat → σ → Int32 → Option σ} {n : Nat} (I : Nat → σ → Prop) (h0 : ∀ q u, I n u → L (q + 1) u (nI n) = some u) (hs : ∀ q u j, j < n → I j u → ∃ u', I (j + 1) u' ∧ L (q + 1) u (nI j) = L q u' (nI (j + 1))) : ∀ (k j q : Nat) (u : σ), j + k = n → k < q → I j u → ∃ v, L q u (nI j) = some v ∧ I n v := by
  intro k
  induction k with
  | zero =>
    intro j q u h1 h2 h3
    obtain ⟨q, rfl⟩ : ∃ z, q = z + 1 := ⟨q - 1, by omega⟩
    have : j = n := by omega
    subst this
    exact ⟨u, h0 q u h3, h3⟩
  | succ k ih =>
    intro j q u h1 h2 h3
    obtain ⟨q, rfl⟩ : ∃ z, q = z + 1 := ⟨q - 1, by omega⟩
    obtain ⟨u', h4, h5⟩ := hs q u j (by omega) h3
    rw [h5]
    exact ih (j + 1) q u' (by omega) (by omega) h4
/-- where figure f leads place p, as a number -/
def Lp (W : Nat → Int32) (f p : Nat) : Nat := (f_X6_leadsBy (W (13 + f)) (W (18 + f)) (nI p)).toNatClampNeg
theorem Lp_ok {W : Nat → Int32} {nA nF nT nB kn f p : Nat} (ho : okW W nA nF nT nB kn) (hf : f < nF) (hp : p < 8) : f_X6_leadsBy (W (13 + f)) (W (18 + f)) (nI p) = nI (Lp W f p) ∧ Lp W f p < 8 := by
  obtain ⟨⟨k, hk, ek⟩, g, hg, eg⟩ := ho.2.2.2.2.1 f hf
  obtain ⟨q, hq, e⟩ := leadsBy_lt k hk g hg p hp
  have : Lp W f p = q := by unfold Lp; rw [ek, eg, e, nI_clamp (by omega)]
  rw [this, ek, eg]
  exact ⟨e, hq⟩
theorem Lp_inj {W : Nat → Int32} {nA nF nT nB kn f p q : Nat} (ho : okW W nA nF nT nB kn) (hf : f < nF) (hp : p < 8) (hq : q < 8) (e : Lp W f p = Lp W f q) : p = q := by
  have h1 := (Lp_ok ho hf hp).1
  have h2 := (Lp_ok ho hf hq).1
  obtain ⟨⟨k, hk, ek⟩, g, hg, eg⟩ := ho.2.2.2.2.1 f hf
  rw [ek, eg] at h1 h2
  exact leadsBy_inj k hk g hg p hp q hq (by rw [h1, h2, e])
def cD (W : Nat → Int32) (w : Nat → Nat) (q f p : Nat) : Nat := if Lp W f p = q then w p else 0
def cN (W : Nat → Int32) (nF : Nat) (w : Nat → Nat) (q : Nat) : Nat := fb_sm (fun f => fb_sm (fun p => cD W w q f p) 8) nF
def cW (W : Nat → Int32) (nF x : Nat) : Nat → Nat → Nat
  | 0 => fun q => if q = x then 1 else 0
  | t + 1 => cN W nF (cW W nF x t)
theorem sm_zero : ∀ n, fb_sm (fun _ => 0) n = 0
  | 0 => rfl
  | n + 1 => by rw [fb_sm_succ, sm_zero n]
theorem sm_swap (a : Nat → Nat → Nat) (m : Nat) : ∀ n, fb_sm (fun f => fb_sm (fun p => a f p) m) n = fb_sm (fun p => fb_sm (fun f => a f p) n) m
  | 0 => by
    show 0 = _
    exact (sm_zero m).symm
  | n + 1 => by
    rw [fb_sm_succ, sm_swap a m n, ← fb_sm_add]
    exact fb_sm_cong fun k _ => rfl
theorem cD_le {W : Nat → Int32} {nA nF nT nB kn f q M : Nat} {w : Nat → Nat} (ho : okW W nA nF nT nB kn) (hf : f < nF) (hw : ∀ p, p < 8 → w p ≤ M) : ∀ n, n ≤ 8 → fb_sm (fun p => cD W w q f p) n ≤ M ∧ ((∀ p, p < n → ¬ Lp W f p = q) → fb_sm (fun p => cD W w q f p) n = 0)
  | 0, _ => ⟨Nat.zero_le _, fun _ => rfl⟩
  | n + 1, hn => by
    obtain ⟨h1, h2⟩ := cD_le ho hf hw n (by omega)
    rw [fb_sm_succ]
    unfold cD at *
    by_cases e : Lp W f n = q
    · rw [if_pos e, h2 (fun p hp e2 => by have := Lp_inj ho hf (show p < 8 by omega) (show n < 8 by omega) (by rw [e, e2]); omega), Nat.zero_add]
      exact ⟨hw n (by omega), fun h => absurd e (h n (by omega))⟩
    · rw [if_neg e, Nat.add_zero]
      exact ⟨h1, fun h => h2 fun p hp => h p (by omega)⟩
theorem cN_le {W : Nat → Int32} {nA nF nT nB kn M : Nat} {w : Nat → Nat} (ho : okW W nA nF nT nB kn) (hw : ∀ p, p < 8 → w p ≤ M) (q : Nat) : cN W nF w q ≤ nF * M := fb_sm_bound fun f hf => (cD_le ho hf hw 8 (by omega)).1
theorem cW_le {W : Nat → Int32} {nA nF nT nB kn : Nat} (ho : okW W nA nF nT nB kn) (x : Nat) : ∀ t q, cW W nF x t q ≤ nF ^ t
  | 0, q => by
    show (if q = x then 1 else 0) ≤ 1
    split <;> omega
  | t + 1, q => by
    have := cN_le (w := cW W nF x t) (M := nF ^ t) ho (fun p _ => cW_le ho x t p) q
    rw [Nat.pow_succ, Nat.mul_comm]
    exact this
def sW (uc u : zS) : Prop := u.2 = uc.2 ∧ ∀ c, c ≠ 42 → c ≠ 43 → u.1 c = uc.1 c
theorem waysOn_eq {N : Nat} {uc u : zS} {W : Nat → Int32} {nA nF nT nB kn : Nat} {w : Nat → Nat} (hN : 300 ≤ N) (ho : okW W nA nF nT nB kn) (hT : cT 1 uc W nF nT) (h7 : uc.1 1 7 = nI nF) (hu : sW uc u) (hw : ∀ q, q < 8 → u.1 42 q = nI (w q)) : ∃ v, f_X5_countWaysOn N u = some v ∧ sW uc v ∧ ∀ q, q < 8 → v.1 42 q = nI (cN W nF w q) := by
  have hF := ho.2.1.2.1
  unfold f_X5_countWaysOn
  obtain ⟨u1, a1, a2, a3, a4⟩ := for_loop (L := f_X5_countWaysOn_L2 N) (n := 8) (fun j x => sW uc x ∧ (∀ q, q < 8 → x.1 42 q = nI (w q)) ∧ ∀ q, q < j → x.1 43 q = nI 0)
    (fun q x _ => by
      show f_X5_countWaysOn_L2_B N _ _ _ = _
      unfold f_X5_countWaysOn_L2_B
      rw [if_pos (show (8 : Int32) ≤ nI 8 by decide)])
    (fun q x j hj hI => by
      refine ⟨wI x 43 j (nI 0), ⟨⟨hI.1.1, fun c c1 c2 => by rw [wI_ne c2]; exact hI.1.2 c c1 c2⟩, fun q hq => by rw [wI_ne (by omega)]; exact hI.2.1 q hq, fun q hq => ?_⟩, ?_⟩
      · rw [wI_at]
        by_cases e : q = j
        · subst e; rw [pk_us]
        · rw [pk_un e]; exact hI.2.2 q (by omega)
      · show f_X5_countWaysOn_L2_B N _ _ _ = _
        unfold f_X5_countWaysOn_L2_B
        rw [if_neg (show ¬ (8 : Int32) ≤ nI j from nI_ge (a := j) (b := 8) (by omega) (by omega)), og_nI (by omega) (by omega), nI_clamp (by omega), ol, show nI j + 1 = nI (j + 1) from nI_1 j]
        rfl)
    8 0 N u (by omega) (by omega) ⟨hu, hw, fun q hq => absurd hq (by omega)⟩
  rw [show f_X5_countWaysOn_L2 N N u 0 = some u1 from a1, ob_s]
  have fig : ∀ (f : Nat) (A : Nat → Nat) (x : zS), f < nF → sW uc x → (∀ q, q < 8 → x.1 42 q = nI (w q)) → (∀ q, q < 8 → x.1 43 q = nI (A q)) → ∃ v, f_X5_countWaysOn_L36 N (nI f) N x 0 = some v ∧ sW uc v ∧ (∀ q, q < 8 → v.1 42 q = nI (w q)) ∧ ∀ q, q < 8 → v.1 43 q = nI (A q + fb_sm (fun p => cD W w q f p) 8) := by
    intro f A x hf x1 x2 x3
    exact for_loop (L := f_X5_countWaysOn_L36 N (nI f)) (n := 8) (fun j x => sW uc x ∧ (∀ q, q < 8 → x.1 42 q = nI (w q)) ∧ ∀ q, q < 8 → x.1 43 q = nI (A q + fb_sm (fun p => cD W w q f p) j))
      (fun q x _ => by
        show f_X5_countWaysOn_L36_B N _ _ _ _ = _
        unfold f_X5_countWaysOn_L36_B
        rw [if_pos (show (8 : Int32) ≤ nI 8 by decide)])
      (fun q x j hj hI => by
        obtain ⟨l1, l2⟩ := Lp_ok ho hf hj
        have hTx : cT 1 x W nF nT := hT.congr (by rw [hI.1.2 1 (by omega) (by omega)]) (hI.1.2 _ (by omega) (by omega)) (hI.1.2 _ (by omega) (by omega))
        refine ⟨wI x 43 (Lp W f j) (nI (A (Lp W f j) + fb_sm (fun p => cD W w (Lp W f j) f p) j + w j)), ⟨⟨hI.1.1, fun c c1 c2 => by rw [wI_ne c2]; exact hI.1.2 c c1 c2⟩, fun q hq => by rw [wI_ne (by omega)]; exact hI.2.1 q hq, fun q hq => ?_⟩, ?_⟩
        · rw [wI_at, fb_sm_succ]
          by_cases e : q = Lp W f j
          · subst e
            rw [pk_us, show cD W w (Lp W f j) f j = w j from if_pos rfl, Nat.add_assoc]
          · rw [pk_un e, hI.2.2 q hq, show cD W w q f j = 0 from if_neg (fun z => e z.symm), Nat.add_zero]
        · show f_X5_countWaysOn_L36_B N _ _ _ _ = _
          unfold f_X5_countWaysOn_L36_B
          rw [if_neg (show ¬ (8 : Int32) ≤ nI j from nI_ge (a := j) (b := 8) (by omega) (by omega)), ledBy_eq hTx hf hF hj, ob_s, l1, og_nI (by omega) (by omega), og_nI (by omega) (by omega), og_nI (by omega) (by omega), nI_clamp (by omega), nI_clamp (by omega), ol, hI.2.1 j hj, hI.2.2 _ l2, nI_add, show nI j + 1 = nI (j + 1) from nI_1 j])
      8 0 N x (by omega) (by omega) ⟨x1, x2, x3⟩
  obtain ⟨u2, b1, b2, b3, b4⟩ := for_loop (L := f_X5_countWaysOn_L23 N) (n := nF) (fun j x => sW uc x ∧ (∀ q, q < 8 → x.1 42 q = nI (w q)) ∧ ∀ q, q < 8 → x.1 43 q = nI (cN W j w q))
    (fun q x hI => by
      show f_X5_countWaysOn_L23_B N _ _ _ = _
      unfold f_X5_countWaysOn_L23_B
      rw [hI.1.2 1 (by omega) (by omega), h7, if_pos (nI_le (Nat.le_refl _) (by omega))])
    (fun q x j hj hI => by
      obtain ⟨v, c1, c2⟩ := fig j (fun q => cN W j w q) x hj hI.1 hI.2.1 hI.2.2
      refine ⟨v, c2, ?_⟩
      show f_X5_countWaysOn_L23_B N _ _ _ = _
      unfold f_X5_countWaysOn_L23_B
      rw [hI.1.2 1 (by omega) (by omega), h7, if_neg (nI_ge (by omega) (by omega)), c1, ob_s, show nI j + 1 = nI (j + 1) from nI_1 j])
    nF 0 N u1 (by omega) (by omega) ⟨a2, a3, a4⟩
  rw [show f_X5_countWaysOn_L23 N N u1 0 = some u2 from b1, ob_s]
  obtain ⟨u3, e1, e2, e3, e4⟩ := for_loop (L := f_X5_countWaysOn_L79 N) (n := 8) (fun j x => sW uc x ∧ (∀ q, q < 8 → x.1 43 q = nI (cN W nF w q)) ∧ ∀ q, q < j → x.1 42 q = nI (cN W nF w q))
    (fun q x _ => by
      show f_X5_countWaysOn_L79_B N _ _ _ = _
      unfold f_X5_countWaysOn_L79_B
      rw [if_pos (show (8 : Int32) ≤ nI 8 by decide)])
    (fun q x j hj hI => by
      refine ⟨wI x 42 j (x.1 43 j), ⟨⟨hI.1.1, fun c c1 c2 => by rw [wI_ne c1]; exact hI.1.2 c c1 c2⟩, fun q hq => by rw [wI_ne (by omega)]; exact hI.2.1 q hq, fun q hq => ?_⟩, ?_⟩
      · rw [wI_at]
        by_cases e : q = j
        · subst e; rw [pk_us]; exact hI.2.1 q (by omega)
        · rw [pk_un e]; exact hI.2.2 q (by omega)
      · show f_X5_countWaysOn_L79_B N _ _ _ = _
        unfold f_X5_countWaysOn_L79_B
        rw [if_neg (show ¬ (8 : Int32) ≤ nI j from nI_ge (a := j) (b := 8) (by omega) (by omega)), og_nI (by omega) (by omega), og_nI (by omega) (by omega), nI_clamp (by omega), ol, show nI j + 1 = nI (j + 1) from nI_1 j])
    8 0 N u2 (by omega) (by omega) ⟨b2, b4, fun q hq => absurd hq (by omega)⟩
  rw [show f_X5_countWaysOn_L79 N N u2 0 = some u3 from e1, ob_s]
  exact ⟨u3, rfl, e2, e4⟩
theorem ways_eq {N : Nat} {uc : zS} {W : Nat → Int32} {nA nF nT nB kn x n : Nat} (hN : 300 ≤ N) (ho : okW W nA nF nT nB kn) (hT : cT 1 uc W nF nT) (h7 : uc.1 1 7 = nI nF) (hx : x < 8) (hn : n ≤ 8) : ∃ v, f_X5_countWays N uc (nI x) (nI n) = some v ∧ sW uc v ∧ ∀ q, q < 8 → v.1 42 q = nI (cW W nF x n q) := by
  unfold f_X5_countWays
  obtain ⟨u1, a1, a2, a3⟩ := for_loop (L := f_X5_countWays_L2 N (nI x) (nI n)) (n := 8) (fun j u => sW uc u ∧ ∀ q, q < j → u.1 42 q = nI (cW W nF x 0 q))
    (fun q u _ => by
      show f_X5_countWays_L2_B N _ _ _ _ _ = _
      unfold f_X5_countWays_L2_B
      rw [if_pos (show (8 : Int32) ≤ nI 8 by decide)])
    (fun q u j hj hI => by
      refine ⟨wI u 42 j (nI (cW W nF x 0 j)), ⟨⟨hI.1.1, fun c c1 c2 => by rw [wI_ne c1]; exact hI.1.2 c c1 c2⟩, fun q hq => ?_⟩, ?_⟩
      · rw [wI_at]
        by_cases e : q = j
        · subst e; rw [pk_us]
        · rw [pk_un e]; exact hI.2 q (by omega)
      · show f_X5_countWays_L2_B N _ _ _ _ _ = _
        unfold f_X5_countWays_L2_B
        rw [if_neg (show ¬ (8 : Int32) ≤ nI j from nI_ge (a := j) (b := 8) (by omega) (by omega)), og_nI (by omega) (by omega), og_nI (by omega) (by omega), nI_clamp (by omega), ol, ol, show nI j + 1 = nI (j + 1) from nI_1 j, show cW W nF x 0 j = if j = x then 1 else 0 from rfl]
        by_cases e : j = x
        · rw [if_pos (by rw [e]), if_pos e]; rfl
        · rw [if_neg (fun z => e ((nI_eq (by omega) (by omega)).mp z)), if_neg e]; rfl)
    8 0 N uc (by omega) (by omega) ⟨⟨rfl, fun _ _ _ => rfl⟩, fun q hq => absurd hq (by omega)⟩
  rw [show f_X5_countWays_L2 N (nI x) (nI n) N uc 0 = some u1 from a1, ob_s]
  obtain ⟨u2, b1, b2, b3⟩ := for_loop (L := f_X5_countWays_L32 N (nI n)) (n := n) (fun j u => sW uc u ∧ ∀ q, q < 8 → u.1 42 q = nI (cW W nF x j q))
    (fun q u _ => by
      show f_X5_countWays_L32_B N _ _ _ _ = _
      unfold f_X5_countWays_L32_B
      rw [if_pos (nI_le (Nat.le_refl _) (by omega))])
    (fun q u j hj hI => by
      obtain ⟨v, c1, c2, c3⟩ := waysOn_eq (N := N) hN ho hT h7 hI.1 hI.2
      refine ⟨v, ⟨c2, c3⟩, ?_⟩
      show f_X5_countWays_L32_B N _ _ _ _ = _
      unfold f_X5_countWays_L32_B
      rw [if_neg (nI_ge (by omega) (by omega)), c1, ob_s, show nI j + 1 = nI (j + 1) from nI_1 j])
    n 0 N u1 (by omega) (by omega) ⟨a2, a3⟩
  rw [show f_X5_countWays_L32 N (nI n) N u1 0 = some u2 from b1, ob_s]
  exact ⟨u2, rfl, b2, b3⟩
def mWy (um u : zS) : Prop := u.1 = um.1 ∧ ∀ c, c ≠ 11 → c ≠ 12 → u.2 c = um.2 c
theorem waysM_eq {N : Nat} {um u : zS} {nA nF nT nB kn : Nat} {w : Nat → Nat} (hN : 300 ≤ N) (ho : okW (um.1 1) nA nF nT nB kn) (hu : mWy um u) (hw : ∀ q, q < 8 → u.2 11 q = lN (w q)) (v2 v3 v4 v7 : Int32) (v5 : Int64) : ∃ x1 x2 x3, f_X6_chance_L133 N v2 v3 v4 v5 v7 N u 0 = some x1 ∧ f_X6_chance_L157 N v2 v3 v4 v5 v7 N x1 0 = some x2 ∧ f_X6_chance_L216 N v2 v3 v4 v5 v7 N x2 0 = some x3 ∧ mWy um x3 ∧ ∀ q, q < 8 → x3.2 11 q = lN (cN (um.1 1) nF w q) := by
  have hF := ho.2.1.2.1
  obtain ⟨u1, a1, a2, a3, a4⟩ := for_loop (L := f_X6_chance_L133 N v2 v3 v4 v5 v7) (n := 8) (fun j x => mWy um x ∧ (∀ q, q < 8 → x.2 11 q = lN (w q)) ∧ ∀ q, q < j → x.2 12 q = lN 0)
    (fun q x _ => by
      show f_X6_chance_L133_B N _ _ _ _ _ _ _ _ = _
      unfold f_X6_chance_L133_B
      rw [if_pos (show (8 : Int32) ≤ nI 8 by decide)])
    (fun q x j hj hI => by
      refine ⟨wL x 12 j (lN 0), ⟨⟨hI.1.1, fun c c1 c2 => by rw [wL_ne c2]; exact hI.1.2 c c1 c2⟩, fun q hq => by rw [wL_ne (by omega)]; exact hI.2.1 q hq, fun q hq => ?_⟩, ?_⟩
      · rw [wL_at]
        by_cases e : q = j
        · subst e; rw [pk_uLs]
        · rw [pk_uLn e]; exact hI.2.2 q (by omega)
      · show f_X6_chance_L133_B N _ _ _ _ _ _ _ _ = _
        unfold f_X6_chance_L133_B
        rw [if_neg (show ¬ (8 : Int32) ≤ nI j from nI_ge (a := j) (b := 8) (by omega) (by omega)), og_nI (by omega) (by omega), nI_clamp (by omega), ol, show nI j + 1 = nI (j + 1) from nI_1 j]
        rfl)
    8 0 N u (by omega) (by omega) ⟨hu, hw, fun q hq => absurd hq (by omega)⟩
  have fig : ∀ (p : Nat) (A : Nat → Nat) (x : zS), p < 8 → mWy um x → (∀ q, q < 8 → x.2 11 q = lN (w q)) → (∀ q, q < 8 → x.2 12 q = lN (A q)) → ∃ v, f_X6_chance_L167 N v2 v3 v4 v5 v7 (nI p) N x 0 = some v ∧ mWy um v ∧ (∀ q, q < 8 → v.2 11 q = lN (w q)) ∧ ∀ q, q < 8 → v.2 12 q = lN (A q + fb_sm (fun f => cD (um.1 1) w q f p) nF) := by
    intro p A x hp x1 x2 x3
    exact for_loop (L := f_X6_chance_L167 N v2 v3 v4 v5 v7 (nI p)) (n := nF) (fun j x => mWy um x ∧ (∀ q, q < 8 → x.2 11 q = lN (w q)) ∧ ∀ q, q < 8 → x.2 12 q = lN (A q + fb_sm (fun f => cD (um.1 1) w q f p) j))
      (fun q x hI => by
        show f_X6_chance_L167_B N _ _ _ _ _ _ _ _ _ = _
        unfold f_X6_chance_L167_B
        rw [hI.1.1, ho.1.2.1, if_pos (nI_le (Nat.le_refl _) (by omega))])
      (fun q x j hj hI => by
        obtain ⟨l1, l2⟩ := Lp_ok ho hj hp
        refine ⟨wL x 12 (Lp (um.1 1) j p) (lN (A (Lp (um.1 1) j p) + fb_sm (fun f => cD (um.1 1) w (Lp (um.1 1) j p) f p) j + w p)), ⟨⟨hI.1.1, fun c c1 c2 => by rw [wL_ne c2]; exact hI.1.2 c c1 c2⟩, fun q hq => by rw [wL_ne (by omega)]; exact hI.2.1 q hq, fun q hq => ?_⟩, ?_⟩
        · rw [wL_at, fb_sm_succ]
          by_cases e : q = Lp (um.1 1) j p
          · subst e
            rw [pk_uLs, show cD (um.1 1) w (Lp (um.1 1) j p) j p = w p from if_pos rfl, Nat.add_assoc]
          · rw [pk_uLn e, hI.2.2 q hq, show cD (um.1 1) w q j p = 0 from if_neg (fun z => e z.symm), Nat.add_zero]
        · show f_X6_chance_L167_B N _ _ _ _ _ _ _ _ _ = _
          unfold f_X6_chance_L167_B
          rw [hI.1.1, ho.1.2.1, if_neg (nI_ge (by omega) (by omega)), leadsOf_eq (by omega), hI.1.1, ob_s, l1, og_nI (by omega) (by omega), og_nI (by omega) (by omega), og_nI (by omega) (by omega), nI_clamp (by omega), nI_clamp (by omega), ol, hI.2.1 p hp, hI.2.2 _ l2, lN_add, show nI j + 1 = nI (j + 1) from nI_1 j])
      nF 0 N x (by omega) (by omega) ⟨x1, x2, x3⟩
  obtain ⟨u2, b1, b2, b3, b4⟩ := for_loop (L := f_X6_chance_L157 N v2 v3 v4 v5 v7) (n := 8) (fun j x => mWy um x ∧ (∀ q, q < 8 → x.2 11 q = lN (w q)) ∧ ∀ q, q < 8 → x.2 12 q = lN (fb_sm (fun p => fb_sm (fun f => cD (um.1 1) w q f p) nF) j))
    (fun q x hI => by
      show f_X6_chance_L157_B N _ _ _ _ _ _ _ _ = _
      unfold f_X6_chance_L157_B
      rw [if_pos (show (8 : Int32) ≤ nI 8 by decide)])
    (fun q x j hj hI => by
      obtain ⟨v, c1, c2⟩ := fig j (fun q => fb_sm (fun p => fb_sm (fun f => cD (um.1 1) w q f p) nF) j) x hj hI.1 hI.2.1 hI.2.2
      refine ⟨v, c2, ?_⟩
      show f_X6_chance_L157_B N _ _ _ _ _ _ _ _ = _
      unfold f_X6_chance_L157_B
      rw [if_neg (show ¬ (8 : Int32) ≤ nI j from nI_ge (a := j) (b := 8) (by omega) (by omega)), c1, ob_s, show nI j + 1 = nI (j + 1) from nI_1 j])
    8 0 N u1 (by omega) (by omega) ⟨a2, a3, a4⟩
  have b5 : ∀ q, q < 8 → u2.2 12 q = lN (cN (um.1 1) nF w q) := fun q hq => by
    rw [b4 q hq]
    unfold cN
    rw [sm_swap]
  obtain ⟨u3, e1, e2, e3, e4⟩ := for_loop (L := f_X6_chance_L216 N v2 v3 v4 v5 v7) (n := 8) (fun j x => mWy um x ∧ (∀ q, q < 8 → x.2 12 q = lN (cN (um.1 1) nF w q)) ∧ ∀ q, q < j → x.2 11 q = lN (cN (um.1 1) nF w q))
    (fun q x _ => by
      show f_X6_chance_L216_B N _ _ _ _ _ _ _ _ = _
      unfold f_X6_chance_L216_B
      rw [if_pos (show (8 : Int32) ≤ nI 8 by decide)])
    (fun q x j hj hI => by
      refine ⟨wL x 11 j (x.2 12 j), ⟨⟨hI.1.1, fun c c1 c2 => by rw [wL_ne c1]; exact hI.1.2 c c1 c2⟩, fun q hq => by rw [wL_ne (by omega)]; exact hI.2.1 q hq, fun q hq => ?_⟩, ?_⟩
      · rw [wL_at]
        by_cases e : q = j
        · subst e; rw [pk_uLs]; exact hI.2.1 q (by omega)
        · rw [pk_uLn e]; exact hI.2.2 q (by omega)
      · show f_X6_chance_L216_B N _ _ _ _ _ _ _ _ = _
        unfold f_X6_chance_L216_B
        rw [if_neg (show ¬ (8 : Int32) ≤ nI j from nI_ge (a := j) (b := 8) (by omega) (by omega)), og_nI (by omega) (by omega), og_nI (by omega) (by omega), nI_clamp (by omega), ol, show nI j + 1 = nI (j + 1) from nI_1 j])
    8 0 N u2 (by omega) (by omega) ⟨b2, b5, fun q hq => absurd hq (by omega)⟩
  exact ⟨u1, u2, u3, a1, b1, e1, e2, e4⟩
theorem gcdL_loop {N : Nat} (u : zS) (v2 v4 : Int32) (v5 : Int64) : ∀ (k a b m : Nat), b < 2 ^ k → 2 * k < m → a < 2 ^ 31 → k ≤ 31 → f_X6_chance_L261 N u v2 v4 v5 m (lN a) (lN b) = some (lN (Nat.gcd a b)) := by
  intro k
  have z0 : lN 0 = (0 : Int64) := rfl
  induction k with
  | zero =>
    intro a b m h1 h3 h4 h5
    obtain ⟨m, rfl⟩ : ∃ z, m = z + 1 := ⟨m - 1, by omega⟩
    have : b = 0 := by omega
    subst this
    show f_X6_chance_L261_B N _ _ _ _ _ _ _ = _
    unfold f_X6_chance_L261_B
    rw [Nat.gcd_zero_right, if_pos ((lgeq _ _).mpr z0)]
  | succ k ih =>
    intro a b m h1 h3 h4 h5
    obtain ⟨m, rfl⟩ : ∃ z, m = z + 2 := ⟨m - 2, by omega⟩
    have h31 : (2 : Nat) ^ (k + 1) ≤ 2 ^ 31 := Nat.pow_le_pow_right (by omega) h5
    have hp : (2 : Nat) ^ (k + 1) = 2 * 2 ^ k := by rw [Nat.pow_succ]; omega
    show f_X6_chance_L261_B N _ _ _ _ _ _ _ = _
    unfold f_X6_chance_L261_B
    by_cases hb : b = 0
    · subst hb
      rw [if_pos ((lgeq _ _).mpr z0), Nat.gcd_zero_right]
    have nb : ¬ lN b = 0 := fun z => hb ((lN_eq (a := b) (b := 0) (by omega) (by omega)).mp z)
    have nbB : neL (lN b) = true := by simp [neL, nb]
    rw [if_neg (fun z => nb ((lgeq _ _).mp z)), nbB, og_t, ol, pk_lRem (by omega) (by omega) (by omega)]
    have hr := Nat.mod_lt a (show 0 < b by omega)
    rw [Nat.gcd_comm a b, Nat.gcd_rec b a]
    generalize a % b = r at hr
    show f_X6_chance_L261_B N _ _ _ _ _ _ _ = _
    unfold f_X6_chance_L261_B
    by_cases hr0 : r = 0
    · subst hr0
      rw [if_pos ((lgeq _ _).mpr z0), Nat.gcd_zero_left]
    have nr : ¬ lN r = 0 := fun z => hr0 ((lN_eq (a := r) (b := 0) (by omega) (by omega)).mp z)
    have nrB : neL (lN r) = true := by simp [neL, nr]
    rw [if_neg (fun z => nr ((lgeq _ _).mp z)), nrB, og_t, ol, pk_lRem (by omega) (by omega) (by omega)]
    have hh : 2 * (b % r) < b := by
      have l1 := Nat.mod_lt b (show 0 < r by omega)
      have l2 := Nat.div_add_mod b r
      have l3 : 1 ≤ b / r := (Nat.one_le_div_iff (by omega)).mpr (by omega)
      have l4 : r * 1 ≤ r * (b / r) := Nat.mul_le_mul_left r l3
      omega
    rw [ih r (b % r) m (by omega) (by omega) (by omega) (by omega), Nat.gcd_comm r, ← Nat.gcd_rec]
theorem pow_le5 : ∀ a, a < 6 → ∀ n, n < 9 → a ^ n ≤ 390625 := by decide
theorem ok_chance {N : Nat} {uc um : zS} (hN : 300 ≤ N) (h : RR uc um) (a0 a1' a2 a3 : Int32) : op_chance N RR uc um a0 a1' a2 a3 := by
  unfold op_chance f_X5_chance f_X6_chance
  obtain ⟨nA, nF, nT, nB, kn, sl, hW, hc⟩ := h.1
  have a1 := hW.1.1
  have b1 := hW.2.1.1
  have a2' := hW.1.2.1
  have b2 := hW.2.1.2.1
  have d2 := hc.1.2.1
  have d1 := hc.1.1
  rw [isAngel_eq a1 (d1.trans a1) (by omega), isPlace_eq, show f_X6_in a2.toInt64 0 8 = f_X5_within a2 0 8 from in_within a2 0 8, show f_X6_in a3.toInt64 0 1 = f_X5_within a3 0 1 from in_within a3 0 1]
  rcases hasA (d1.trans a1) (by omega) a0 with h0 | ⟨i, hi, rfl, h1⟩
  · rw [if_pos h0, if_pos h0]; exact ⟨_, _, _, rfl, rfl, h⟩
  have h1n : ¬ f_X1_hasAngel 1 uc (nI i) = 0 := by rw [h1]; decide
  rw [if_neg h1n, if_neg h1n]
  rcases isPl a1' with h0 | ⟨p, hp, rfl, h2⟩
  · rw [if_pos h0, if_pos h0]; exact ⟨_, _, _, rfl, rfl, h⟩
  have h2n : ¬ f_X5_isPlace (nI p) = 0 := by rw [h2]; decide
  rw [if_neg h2n, if_neg h2n]
  rcases wi a2 (lo := 0) (hi := 8) (by omega) (by omega) with h0 | ⟨n, _, hn, rfl, h2⟩
  · have h0 : f_X5_within a2 0 8 = 0 := h0
    rw [if_pos h0, if_pos h0]; exact ⟨_, _, _, rfl, rfl, h⟩
  have h2n : ¬ f_X5_within (nI n) 0 8 = 0 := by rw [show f_X5_within (nI n) 0 8 = 1 from h2]; decide
  rw [if_neg h2n, if_neg h2n]
  by_cases hw : f_X5_within a3 0 1 = 0
  · rw [if_pos hw, if_pos hw]; exact ⟨_, _, _, rfl, rfl, h⟩
  rw [if_neg hw, if_neg hw]
  have e : uc.1 2 i = um.1 1 (5 + i) := hc.2.1 i hi
  have e5 : (5 : Int32) + nI i = nI (5 + i) := nI_add 5 i
  have h7 : uc.1 1 7 = nI nF := d2.trans a2'
  rw [og_nI (i := i) (n := 8) (by omega) (by omega), nI_clamp (by omega), e, e5, og_nI (i := 5 + i) (n := 279) (by omega) (by omega), nI_clamp (by omega), nI_clamp (by omega), h7, a2']
  rcases hW.2.2.2.1 i hi with hv | ⟨x, hx, hv⟩
  · rw [if_pos hv, if_pos hv]; exact ⟨_, _, _, rfl, rfl, h⟩
  rw [hv, if_neg (nI_n4 (by omega)), if_neg (nI_n4 (by omega))]
  by_cases hF0 : nF = 0
  · subst hF0
    rw [if_neg (show ¬ (0 : Int32) < nI 0 by decide), if_pos (show nI 0 = (0 : Int32) by decide)]; exact ⟨_, _, _, rfl, rfl, h⟩
  rw [if_pos (show (0 : Int32) < nI nF from nI_lt (a := 0) (b := nF) (by omega) (by omega)), if_neg (show ¬ nI nF = (0 : Int32) from nI_ne0 (by omega) (by omega)), og_nI (by omega) (by omega)]
  obtain ⟨vc, w1, w2, w3⟩ := ways_eq (N := N) hN hW hc.t h7 hx hn
  rw [w1, ob_s]
  have hpow : nF ^ n ≤ 390625 := pow_le5 nF (by omega) n (by omega)
  have hpow0 : 0 < nF ^ n := Nat.pow_pos (by omega)
  have hcw := cW_le hW x n p
  have allC : ∀ (k j q : Nat), j + k = n → k < q → f_X5_chance_L87 N vc (nI p) (nI n) a3 q (nI (nF ^ j)) (nI j) = some (nI (nF ^ n)) := by
    intro k
    induction k with
    | zero =>
      intro j q g1 g2
      obtain ⟨q, rfl⟩ : ∃ z, q = z + 1 := ⟨q - 1, by omega⟩
      have : j = n := by omega
      subst this
      show f_X5_chance_L87_B N _ _ _ _ _ _ _ = _
      unfold f_X5_chance_L87_B
      rw [if_pos (nI_le (Nat.le_refl _) (by omega))]
    | succ k ih =>
      intro j q g1 g2
      obtain ⟨q, rfl⟩ : ∃ z, q = z + 1 := ⟨q - 1, by omega⟩
      show f_X5_chance_L87_B N _ _ _ _ _ _ _ = _
      unfold f_X5_chance_L87_B
      rw [if_neg (nI_ge (by omega) (by omega)), ol, w2.2 1 (by omega) (by omega), h7, pk_mul, ← Nat.pow_succ, show nI j + 1 = nI (j + 1) from nI_1 j]
      exact ih (j + 1) q (by omega) (by omega)
  have hg : 0 < Nat.gcd (cW (um.1 1) nF x n p) (nF ^ n) := Nat.gcd_pos_of_pos_right _ hpow0
  have hg2 : Nat.gcd (cW (um.1 1) nF x n p) (nF ^ n) ≤ nF ^ n := Nat.le_of_dvd hpow0 (Nat.gcd_dvd_right _ _)
  rw [show f_X5_chance_L87 N vc (nI p) (nI n) a3 N 1 0 = _ from allC n 0 N (by omega) (by omega), ob_s, og_nI (by omega) (by omega), w3 p hp, common_eq (by omega) (by omega) (by omega), ob_s, if_pos (show (0 : Int32) < nI (Nat.gcd (cW (um.1 1) nF x n p) (nF ^ n)) from nI_lt (a := 0) (by omega) (by omega)), og_nI (by omega) (by omega), og_neN (by omega) (by omega), pk_div (by omega) (by omega) (by omega), pk_div (by omega) (by omega) (by omega)]
  -- the reference
  obtain ⟨m1, g1, g2, g3⟩ := for_loop (L := f_X6_chance_L71 N (nI i) (nI p) (nI n) a3 1) (n := 8) (fun j u => mWy um u ∧ ∀ q, q < j → u.2 11 q = lN (cW (um.1 1) nF x 0 q))
    (fun q u _ => by
      show f_X6_chance_L71_B N _ _ _ _ _ _ _ _ = _
      unfold f_X6_chance_L71_B
      rw [if_pos (show (8 : Int32) ≤ nI 8 by decide)])
    (fun q u j hj hI => by
      refine ⟨wL u 11 j (lN (cW (um.1 1) nF x 0 j)), ⟨⟨hI.1.1, fun c c1 c2 => by rw [wL_ne c1]; exact hI.1.2 c c1 c2⟩, fun q hq => ?_⟩, ?_⟩
      · rw [wL_at]
        by_cases e : q = j
        · subst e; rw [pk_uLs]
        · rw [pk_uLn e]; exact hI.2 q (by omega)
      · show f_X6_chance_L71_B N _ _ _ _ _ _ _ _ = _
        unfold f_X6_chance_L71_B
        rw [if_neg (show ¬ (8 : Int32) ≤ nI j from nI_ge (a := j) (b := 8) (by omega) (by omega)), e5, og_nI (by omega) (by omega), nI_clamp (by omega), hI.1.1, hv, og_nI (by omega) (by omega), og_nI (by omega) (by omega), nI_clamp (by omega), ol, ol, show nI j + 1 = nI (j + 1) from nI_1 j, show cW (um.1 1) nF x 0 j = if j = x then 1 else 0 from rfl]
        by_cases e : j = x
        · rw [if_pos (by rw [e]), if_pos e]; rfl
        · rw [if_neg (fun z => e ((nI_eq (by omega) (by omega)).mp z)), if_neg e]; rfl)
    8 0 N um (by omega) (by omega) ⟨⟨rfl, fun _ _ _ => rfl⟩, fun q hq => absurd hq (by omega)⟩
  rw [show f_X6_chance_L71 N (nI i) (nI p) (nI n) a3 1 N um 0 = some m1 from g1, ob_s]
  have rounds : ∀ (k j q : Nat) (u : zS), j + k = n → k < q → mWy um u → (∀ z, z < 8 → u.2 11 z = lN (cW (um.1 1) nF x j z)) → ∃ v, f_X6_chance_L112 N (nI p) (nI n) a3 q u (lN (nF ^ j)) (nI j) = some (lN (nF ^ n), v) ∧ mWy um v ∧ ∀ z, z < 8 → v.2 11 z = lN (cW (um.1 1) nF x n z) := by
    intro k
    induction k with
    | zero =>
      intro j q u y1 y2 y3 y4
      obtain ⟨q, rfl⟩ : ∃ z, q = z + 1 := ⟨q - 1, by omega⟩
      have : j = n := by omega
      subst this
      refine ⟨u, ?_, y3, y4⟩
      show f_X6_chance_L112_B N _ _ _ _ _ _ _ = _
      unfold f_X6_chance_L112_B
      rw [if_pos (nI_le (Nat.le_refl _) (by omega))]
    | succ k ih =>
      intro j q u y1 y2 y3 y4
      obtain ⟨q, rfl⟩ : ∃ z, q = z + 1 := ⟨q - 1, by omega⟩
      show ∃ v, f_X6_chance_L112_B N _ _ _ _ _ _ _ = _ ∧ _
      unfold f_X6_chance_L112_B
      obtain ⟨x1, x2, x3, z1, z2, z3, z4, z5⟩ := waysM_eq (N := N) hN hW y3 y4 (nI p) (nI n) a3 (nI j) (lN (nF ^ (j + 1)))
      rw [if_neg (nI_ge (by omega) (by omega)), ol, y3.1, a2', nI_l (by omega), lN_mul, ← Nat.pow_succ, z1, ob_s, z2, ob_s, z3, ob_s, show nI j + 1 = nI (j + 1) from nI_1 j]
      exact ih (j + 1) q x3 (by omega) (by omega) z4 z5
  obtain ⟨m2, r1, r2, r3⟩ := rounds n 0 N m1 (by omega) (by omega) g2 g3
  have ngB : neL (lN (Nat.gcd (cW (um.1 1) nF x n p) (nF ^ n))) = true := by
    have : ¬ lN (Nat.gcd (cW (um.1 1) nF x n p) (nF ^ n)) = 0 := fun z => by
      have := (lN_eq (a := Nat.gcd (cW (um.1 1) nF x n p) (nF ^ n)) (b := 0) (by omega) (by omega)).mp z
      omega
    simp [neL, this]
  rw [show f_X6_chance_L112 N (nI p) (nI n) a3 N m1 1 0 = _ from r1, ob_s, og_nI (by omega) (by omega), r3 p hp, ol, gcdL_loop m2 (nI p) a3 (lN (nF ^ n)) 31 _ _ N (by omega) (by omega) (by omega) (by omega), ob_s, og_nI (by omega) (by omega), ngB, og_t, og_t, pk_lDiv (by omega) (by omega) (by omega), pk_lDiv (by omega) (by omega) (by omega), lN_i, lN_i]
  have fin : RR vc m2 := RR_now h (rgR_same h.1 (fun c y1 y2 => w2.2 c (by omega) (by omega)) (fun k _ => by rw [r2.1])) ⟨w2.2 0 (by omega) (by omega), fun c y1 y2 => w2.2 c (by omega) (by omega), w2.2 31 (by omega) (by omega), w2.2 32 (by omega) (by omega), w2.2 34 (by omega) (by omega), w2.2 35 (by omega) (by omega), by rw [w2.1]⟩ ⟨by rw [r2.1], by rw [r2.1], by rw [r2.1], by rw [r2.1], by rw [r2.1], r2.2 3 (by omega) (by omega), fun k _ _ => by rw [r2.1]⟩
  by_cases z0 : a3 = 0
  · rw [if_pos z0, if_pos z0]; exact ⟨_, _, _, rfl, rfl, fin⟩
  · rw [if_neg z0, if_neg z0, og_neN (by omega) (by omega)]; exact ⟨_, _, _, rfl, rfl, fin⟩
