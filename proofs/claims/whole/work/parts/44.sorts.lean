/-! sets of places led; the class's search, the reference's search; sorts -/
def gs (W : Nat → Int32) (f m : Nat) : Nat → Nat
  | 0 => 0
  | p + 1 => if f_X5_holds (nI m) (nI p) = 0 then gs W f m p else gs W f m p ||| 2 ^ Lp W f p
def Gs (W : Nat → Int32) (f m : Nat) : Nat := gs W f m 8
theorem gs_lt {W : Nat → Int32} {nA nF nT nB kn f : Nat} (ho : okW W nA nF nT nB kn) (hf : f < nF) (m : Nat) : ∀ n, n ≤ 8 → gs W f m n < 256
  | 0, _ => by show 0 < 256; omega
  | n + 1, hn => by
    have ih := gs_lt ho hf m n (by omega)
    simp only [gs]
    by_cases h : f_X5_holds (nI m) (nI n) = 0
    · rw [if_pos h]; exact ih
    · rw [if_neg h]
      exact Nat.or_lt_two_pow (n := 8) ih (Nat.pow_lt_pow_right (by omega) (Lp_ok ho hf (show n < 8 by omega)).2)
theorem Gs_lt {W : Nat → Int32} {nA nF nT nB kn f : Nat} (ho : okW W nA nF nT nB kn) (hf : f < nF) (m : Nat) : Gs W f m < 256 := gs_lt ho hf m 8 (by omega)
theorem bit8 : ∀ p, p < 8 → f_X5_bitOf (nI p) = nI (2 ^ p) ∧ (1 : Int32) <<< (nI p &&& (31 : Int32)) = nI (2 ^ p) := by decide
theorem setLed_eq {N : Nat} {u : zS} {W : Nat → Int32} {nA nF nT nB kn f m : Nat} (hN : 300 ≤ N) (ho : okW W nA nF nT nB kn) (hT : cT 1 u W nF nT) (hf : f < nF) : f_X1_setLedBy N 1 u (nI f) (nI m) = some (nI (Gs W f m)) := by
  have hF := ho.2.1.2.1
  have key : ∀ (k p q : Nat), p + k = 8 → k < q → f_X1_setLedBy_L5 N 1 u (nI f) (nI m) q (nI (gs W f m p)) (nI p) = some (nI (gs W f m 8)) := by
    intro k
    induction k with
    | zero =>
      intro p q h1 h2
      obtain ⟨q, rfl⟩ : ∃ z, q = z + 1 := ⟨q - 1, by omega⟩
      have : p = 8 := by omega
      subst this
      show f_X1_setLedBy_L5_B N _ _ _ _ _ _ _ = _
      unfold f_X1_setLedBy_L5_B
      rw [if_pos (show (8 : Int32) ≤ nI 8 by decide)]
    | succ k ih =>
      intro p q h1 h2
      obtain ⟨q, rfl⟩ : ∃ z, q = z + 1 := ⟨q - 1, by omega⟩
      have nx := ih (p + 1) q (by omega) (by omega)
      obtain ⟨l1, l2⟩ := Lp_ok ho hf (show p < 8 by omega)
      show f_X1_setLedBy_L5_B N _ _ _ _ _ _ _ = _
      unfold f_X1_setLedBy_L5_B
      rw [if_neg (show ¬ (8 : Int32) ≤ nI p from nI_ge (a := p) (b := 8) (by omega) (by omega)), ledBy_eq hT hf hF (by omega), ob_s, ol, l1, (bit8 _ l2).1, fa_or, show nI p + 1 = nI (p + 1) from nI_1 p]
      simp only [gs] at nx
      by_cases h : f_X5_holds (nI m) (nI p) = 0
      · rw [if_pos h] at nx ⊢; exact nx
      · rw [if_neg h] at nx ⊢; exact nx
  unfold f_X1_setLedBy
  rw [show f_X1_setLedBy_L5 N 1 u (nI f) (nI m) N 0 0 = _ from key 8 0 N (by omega) (by omega)]
  rfl
theorem setLedM_eq {N : Nat} {um : zS} {W : Nat → Int32} {nA nF nT nB kn f m : Nat} (hN : 300 ≤ N) (eW : um.1 1 = W) (ho : okW W nA nF nT nB kn) (hf : f < nF) (hm : m < 256) : f_X6_ledBy N um (nI f) (nI m) = some (nI (Gs W f m)) := by
  subst eW
  have hF := ho.2.1.2.1
  have key : ∀ (k p q : Nat), p + k = 8 → k < q → f_X6_ledBy_L5 N um (nI f) (nI m) q (nI (gs (um.1 1) f m p)) (nI p) = some (nI (gs (um.1 1) f m 8)) := by
    intro k
    induction k with
    | zero =>
      intro p q h1 h2
      obtain ⟨q, rfl⟩ : ∃ z, q = z + 1 := ⟨q - 1, by omega⟩
      have : p = 8 := by omega
      subst this
      show f_X6_ledBy_L5_B N _ _ _ _ _ _ = _
      unfold f_X6_ledBy_L5_B
      rw [if_pos (show (8 : Int32) ≤ nI 8 by decide)]
    | succ k ih =>
      intro p q h1 h2
      obtain ⟨q, rfl⟩ : ∃ z, q = z + 1 := ⟨q - 1, by omega⟩
      have nx := ih (p + 1) q (by omega) (by omega)
      obtain ⟨l1, l2⟩ := Lp_ok ho hf (show p < 8 by omega)
      show f_X6_ledBy_L5_B N _ _ _ _ _ _ = _
      unfold f_X6_ledBy_L5_B
      rw [if_neg (show ¬ (8 : Int32) ≤ nI p from nI_ge (a := p) (b := 8) (by omega) (by omega)), has_holds m hm p (by omega), leadsOf_eq (by omega), ob_s, ol, l1, (bit8 _ l2).2, fa_or, or_0, show nI p + 1 = nI (p + 1) from nI_1 p]
      simp only [gs] at nx
      by_cases h : f_X5_holds (nI m) (nI p) = 0
      · rw [if_pos h] at nx ⊢; exact nx
      · rw [if_neg h] at nx ⊢; exact nx
  unfold f_X6_ledBy
  rw [show f_X6_ledBy_L5 N um (nI f) (nI m) N 0 0 = _ from key 8 0 N (by omega) (by omega)]
  rfl
theorem b_lev {G : Nat → Nat → Nat} {nF m0 M nx f R : Nat} {Q par lab lev : Nat → Nat} (h : bI G nF m0 M nx f Q par lab lev R) : ∀ i, i < R → lev i ≤ i := by
  intro i
  induction i using Nat.strongRecOn with
  | ind i ih =>
    intro hi
    by_cases e0 : i = 0
    · rw [e0, h.1.2.2]; exact Nat.le_refl 0
    obtain ⟨y1, y2, y3, y4, y5⟩ := h.2.2.1 i (by omega) hi
    have := ih (par i) y1 (by omega)
    omega
def xC (uc u : zS) (Q par lab lev : Nat → Nat) (R : Nat) : Prop := u.2 = uc.2 ∧ (∀ c, ¬ (37 ≤ c ∧ c ≤ 41) → u.1 c = uc.1 c) ∧ u.1 37 4 = nI R ∧ (∀ i, i < R → u.1 41 i = nI (Q i)) ∧ (∀ i, i < R → u.1 38 (Q i) = nI (lev i)) ∧ (∀ m, m < 256 → (∀ i, i < R → Q i ≠ m) → u.1 38 m = -4) ∧ ∀ i, 1 ≤ i → i < R → u.1 39 (Q i) = nI (Q (par i)) ∧ u.1 40 (Q i) = nI (lab i)
theorem comeTo_eq {uc u : zS} {W : Nat → Int32} {nA nF nT nB kn m0 nx f R : Nat} {Q par lab lev : Nat → Nat} (ho : okW W nA nF nT nB kn) (hb : bI (Gs W) nF m0 256 nx f Q par lab lev R) (hu : xC uc u Q par lab lev R) (hx : nx < R) (hf : f < nF) : ∃ u' Q' par' lab' lev' R', f_X2_comeTo u (nI (Gs W f (Q nx))) (nI (Q nx)) (nI f) = some u' ∧ bI (Gs W) nF m0 256 nx (f + 1) Q' par' lab' lev' R' ∧ xC uc u' Q' par' lab' lev' R' ∧ R ≤ R' := by
  obtain ⟨h1, h2, h3, h4, h5, h6, h7⟩ := hu
  have hm := Gs_lt ho hf (Q nx)
  have hQ := hb.2.2.2.2.2
  have hqx := hQ nx hx
  have hR := b_le hb
  unfold f_X2_comeTo
  rw [og_nI hm (by omega), nI_clamp (by omega)]
  by_cases ex : ∃ i, i < R ∧ Q i = Gs W f (Q nx)
  · obtain ⟨i, hi, e⟩ := ex
    have hl := b_lev hb i hi
    rw [← e, h5 i hi, if_neg (nI_n4 (by omega))]
    exact ⟨u, Q, par, lab, lev, R, rfl, b_old hb hi e, ⟨h1, h2, h3, h4, h5, h6, h7⟩, Nat.le_refl _⟩
  · have hn : ∀ i, i < R → Q i ≠ Gs W f (Q nx) := fun i hi e => ex ⟨i, hi, e⟩
    have hlt := b_lt hb hm hn
    have hnb := b_new hb hx hf hn hm
    generalize hmm : Gs W f (Q nx) = m at *
    have hne : ∀ i, i < R → Q i ≠ m := hn
    rw [h6 m hm hn, if_pos rfl, h3, if_pos (show nI R < 256 from nI_lt (a := R) (b := 256) (by omega) (by omega)), og_nI hqx (by omega), og_nI hm (by omega), nI_clamp (by omega), h5 nx hx, show nI (lev nx) + 1 = nI (lev nx + 1) from nI_1 _, ol, og_nI hm (by omega), ol, og_nI hm (by omega), ol]
    have k1 : (wI (wI (wI u 38 m (nI (lev nx + 1))) 39 m (nI (Q nx))) 40 m (nI f)).1 37 4 = nI R := by rw [wI_ne (by omega), wI_ne (by omega), wI_ne (by omega)]; exact h3
    rw [k1, og_nI hlt (by omega), nI_clamp (by omega), ol]
    have k2 : (wI (wI (wI (wI u 38 m (nI (lev nx + 1))) 39 m (nI (Q nx))) 40 m (nI f)) 41 R (nI m)).1 37 4 = nI R := by rw [wI_ne (by omega)]; exact k1
    rw [k2, ol, show nI R + 1 = nI (R + 1) from nI_1 R]
    refine ⟨_, _, _, _, _, _, rfl, hnb, ⟨h1, fun c hc => by rw [wI_ne (by omega), wI_ne (by omega), wI_ne (by omega), wI_ne (by omega), wI_ne (by omega)]; exact h2 c hc, by rw [wI_at, pk_us], fun i hi => ?_, fun i hi => ?_, fun z hz hz2 => ?_, fun i hi1 hi => ?_⟩, by omega⟩
    · rw [wI_ne (by omega), wI_at]
      by_cases e : i = R
      · rw [e, pk_us, sa_s]
      · rw [pk_un e, sa_n e, wI_ne (by omega), wI_ne (by omega), wI_ne (by omega)]; exact h4 i (by omega)
    · rw [wI_ne (by omega), wI_ne (by omega), wI_ne (by omega), wI_ne (by omega), wI_at]
      by_cases e : i = R
      · rw [e, sa_s, sa_s, pk_us]
      · rw [sa_n e, sa_n e, pk_un (hne i (by omega))]; exact h5 i (by omega)
    · rw [wI_ne (by omega), wI_ne (by omega), wI_ne (by omega), wI_ne (by omega), wI_at]
      have q1 := hz2 R (by omega)
      rw [sa_s] at q1
      rw [pk_un (fun q => q1 q.symm)]
      refine h6 z hz (fun i hi => ?_)
      have := hz2 i (by omega)
      rw [sa_n (by omega)] at this
      exact this
    · by_cases e : i = R
      · subst e
        rw [sa_s, sa_s, sa_s, sa_n (by omega), wI_ne (by omega), wI_ne (by omega), wI_ne (by omega), wI_at, pk_us, wI_ne (by omega), wI_ne (by omega), wI_at, pk_us]
        exact ⟨rfl, rfl⟩
      · have y1 := (hb.2.2.1 i hi1 (by omega)).1
        rw [sa_n e, sa_n e, sa_n e, sa_n (by omega), wI_ne (by omega), wI_ne (by omega), wI_ne (by omega), wI_at, pk_un (hne i (by omega)), wI_ne (by omega), wI_ne (by omega), wI_ne (by omega), wI_at, pk_un (hne i (by omega)), wI_ne (by omega), wI_ne (by omega)]
        exact h7 i hi1 (by omega)
theorem explore_eq {N : Nat} {uc : zS} {W : Nat → Int32} {nA nF nT nB kn m0 : Nat} (hN : 1000 ≤ N) (ho : okW W nA nF nT nB kn) (hT : cT 1 uc W nF nT) (h7 : uc.1 1 7 = nI nF) (hm : m0 < 256) : ∃ v Q par lab lev R, f_X2_explore N uc (nI m0) = some v ∧ bE (Gs W) nF m0 256 Q par lab lev R ∧ xC uc v Q par lab lev R := by
  have hF := ho.2.1.2.1
  unfold f_X2_explore
  obtain ⟨u1, a1, a2, a3, a4⟩ := for_loop (L := f_X2_explore_L2 N (nI m0)) (n := 256) (fun j x => x.2 = uc.2 ∧ (∀ c, c ≠ 38 → x.1 c = uc.1 c) ∧ ∀ k, k < j → x.1 38 k = -4)
    (fun q x _ => by
      show f_X2_explore_L2_B N _ _ _ _ = _
      unfold f_X2_explore_L2_B
      rw [if_pos (show (256 : Int32) ≤ nI 256 by decide)])
    (fun q x j hj hI => by
      refine ⟨wI x 38 j (-4), ⟨hI.1, fun c hc => by rw [wI_ne hc]; exact hI.2.1 c hc, fun k hk => ?_⟩, ?_⟩
      · rw [wI_at]
        by_cases e : k = j
        · subst e; rw [pk_us]
        · rw [pk_un e]; exact hI.2.2 k (by omega)
      · show f_X2_explore_L2_B N _ _ _ _ = _
        unfold f_X2_explore_L2_B
        rw [if_neg (show ¬ (256 : Int32) ≤ nI j from nI_ge (a := j) (b := 256) (by omega) (by omega)), og_nI (by omega) (by omega), nI_clamp (by omega), ol, show nI j + 1 = nI (j + 1) from nI_1 j])
    256 0 N uc (by omega) (by omega) ⟨rfl, fun _ _ => rfl, fun k hk => absurd hk (by omega)⟩
  rw [show f_X2_explore_L2 N (nI m0) N uc 0 = some u1 from a1, ob_s, og_nI hm (by omega), nI_clamp (by omega), ol, ol, ol]
  generalize hu2 : wI (wI (wI u1 38 m0 0) 41 0 (nI m0)) 37 4 1 = u2
  have hx2 : xC uc u2 (fun _ => m0) (fun _ => 0) (fun _ => 0) (fun _ => 0) 1 := by
    rw [← hu2]
    refine ⟨a2, fun c hc => by rw [wI_ne (by omega), wI_ne (by omega), wI_ne (by omega)]; exact a3 c (by omega), by rw [wI_at, pk_us]; rfl, fun i hi => ?_, fun i hi => ?_, fun m hm hn => ?_, fun i h1 h2 => by omega⟩
    · have : i = 0 := by omega
      rw [this, wI_ne (by omega), wI_at, pk_us]
    · rw [wI_ne (by omega), wI_ne (by omega), wI_at, pk_us]; rfl
    · rw [wI_ne (by omega), wI_ne (by omega), wI_at, pk_un (fun q => hn 0 (by omega) q.symm)]; exact a4 m hm
  have hb2 : bI (Gs W) nF m0 256 0 0 (fun _ => m0) (fun _ => 0) (fun _ => 0) (fun _ => 0) 1 := b_start hm _ _ _ _ rfl rfl
  have outer : ∀ (k nx q : Nat) (u : zS) (Q par lab lev : Nat → Nat) (R : Nat), nx + k = 257 → k < q → nx ≤ R → bI (Gs W) nF m0 256 nx 0 Q par lab lev R → xC uc u Q par lab lev R → ∃ v Q par lab lev R, f_X2_explore_L44 N q u (nI nx) = some v ∧ bE (Gs W) nF m0 256 Q par lab lev R ∧ xC uc v Q par lab lev R := by
    intro k
    induction k with
    | zero =>
      intro nx q u Q par lab lev R h1 h2 h3 h4 h5
      have := b_le h4
      omega
    | succ k ih =>
      intro nx q u Q par lab lev R h1 h2 h3 h4 h5
      obtain ⟨q, rfl⟩ : ∃ z, q = z + 1 := ⟨q - 1, by omega⟩
      have hR := b_le h4
      have eC : f_X2_explore_L44 N (q + 1) u (nI nx) = f_X2_explore_L44_B N (f_X2_explore_L44 N q) u (nI nx) := rfl
      rw [eC]
      unfold f_X2_explore_L44_B
      rw [h5.2.2.1]
      by_cases e : nx = R
      · subst e
        rw [if_pos (nI_le (Nat.le_refl _) (by omega))]
        exact ⟨u, Q, par, lab, lev, nx, rfl, h4, h5⟩
      rw [if_neg (nI_ge (by omega) (by omega)), if_neg (show ¬ (256 : Int32) ≤ nI nx from nI_ge (a := nx) (b := 256) (by omega) (by omega))]
      obtain ⟨v, v1, Q', par', lab', lev', R', v2, v3, v4⟩ := for_loop (L := f_X2_explore_L62 N (nI nx)) (n := nF) (fun j x => ∃ Q par lab lev R, bI (Gs W) nF m0 256 nx j Q par lab lev R ∧ xC uc x Q par lab lev R ∧ nx < R)
        (fun q x hI => by
          obtain ⟨Q, par, lab, lev, R, g1, g2, g3⟩ := hI
          show f_X2_explore_L62_B N _ _ _ _ = _
          unfold f_X2_explore_L62_B
          rw [g2.2.1 1 (by omega), h7, if_pos (nI_le (Nat.le_refl _) (by omega))])
        (fun q x j hj hI => by
          obtain ⟨Q, par, lab, lev, R, g1, g2, g3⟩ := hI
          obtain ⟨u', Q', par', lab', lev', R', y1, y2, y3, y4⟩ := comeTo_eq ho g1 g2 g3 hj
          refine ⟨u', ⟨Q', par', lab', lev', R', y2, y3, by omega⟩, ?_⟩
          have hTx : cT 1 x W nF nT := hT.congr (by rw [g2.2.1 1 (by omega)]) (g2.2.1 _ (by omega)) (g2.2.1 _ (by omega))
          have hR2 := b_le g1
          show f_X2_explore_L62_B N _ _ _ _ = _
          unfold f_X2_explore_L62_B
          rw [g2.2.1 1 (by omega), h7, if_neg (nI_ge (by omega) (by omega)), og_nI (by omega) (by omega), nI_clamp (by omega), g2.2.2.2.1 nx g3, setLed_eq (by omega) ho hTx hj, ob_s, og_nI (by omega) (by omega), y1, ob_s, show nI j + 1 = nI (j + 1) from nI_1 j])
        nF 0 N u (by omega) (by omega) ⟨Q, par, lab, lev, R, h4, h5, by omega⟩
      rw [show f_X2_explore_L62 N (nI nx) N u 0 = some v from v1, ob_s, show nI nx + 1 = nI (nx + 1) from nI_1 nx]
      exact ih (nx + 1) q v Q' par' lab' lev' R' (by omega) (by omega) (by omega) (b_next v2) v3
  obtain ⟨v, Q, par, lab, lev, R, z1, z2, z3⟩ := outer 257 0 N u2 _ _ _ _ 1 (by omega) (by omega) (by omega) hb2 hx2
  rw [show f_X2_explore_L44 N N u2 0 = some v from z1, ob_s]
  exact ⟨v, Q, par, lab, lev, R, rfl, z2, z3⟩
def xM (um w : zS) (Q lev : Nat → Nat) (R : Nat) : Prop := w.2 = um.2 ∧ (∀ c, c ≠ 7 → c ≠ 8 → w.1 c = um.1 c) ∧ (∀ i, i < R → w.1 8 i = nI (Q i)) ∧ (∀ i, i < R → w.1 7 (Q i) = nI (lev i)) ∧ ∀ m, m < 256 → (∀ i, i < R → Q i ≠ m) → w.1 7 m = nI 1000000
theorem laysFar_eq {N : Nat} {um : zS} {nA nF nT nB kn m0 : Nat} (hN : 1000 ≤ N) (ho : okW (um.1 1) nA nF nT nB kn) (hm : m0 < 256) : ∃ w Q par lab lev R, f_X6_laysFar N um (nI m0) = some (nI R, w) ∧ bE (Gs (um.1 1)) nF m0 256 Q par lab lev R ∧ xM um w Q lev R := by
  have hF := ho.2.1.2.1
  unfold f_X6_laysFar
  obtain ⟨u1, a1, a2, a3, a4⟩ := for_loop (L := f_X6_laysFar_L2 N (nI m0)) (n := 256) (fun j x => x.2 = um.2 ∧ (∀ c, c ≠ 7 → x.1 c = um.1 c) ∧ ∀ k, k < j → x.1 7 k = nI 1000000)
    (fun q x _ => by
      show f_X6_laysFar_L2_B N _ _ _ _ = _
      unfold f_X6_laysFar_L2_B
      rw [if_pos (show (256 : Int32) ≤ nI 256 by decide)])
    (fun q x j hj hI => by
      refine ⟨wI x 7 j (nI 1000000), ⟨hI.1, fun c hc => by rw [wI_ne hc]; exact hI.2.1 c hc, fun k hk => ?_⟩, ?_⟩
      · rw [wI_at]
        by_cases e : k = j
        · subst e; rw [pk_us]
        · rw [pk_un e]; exact hI.2.2 k (by omega)
      · show f_X6_laysFar_L2_B N _ _ _ _ = _
        unfold f_X6_laysFar_L2_B
        rw [if_neg (show ¬ (256 : Int32) ≤ nI j from nI_ge (a := j) (b := 256) (by omega) (by omega)), og_nI (by omega) (by omega), nI_clamp (by omega), ol, show nI j + 1 = nI (j + 1) from nI_1 j]
        rfl)
    256 0 N um (by omega) (by omega) ⟨rfl, fun _ _ => rfl, fun k hk => absurd hk (by omega)⟩
  rw [show f_X6_laysFar_L2 N (nI m0) N um 0 = some u1 from a1, ob_s, ol, og_nI hm (by omega), nI_clamp (by omega), ol]
  generalize hu2 : wI (wI u1 8 0 (nI m0)) 7 m0 0 = u2
  have hx2 : xM um u2 (fun _ => m0) (fun _ => 0) 1 := by
    rw [← hu2]
    refine ⟨a2, fun c h1 h2 => by rw [wI_ne h1, wI_ne h2]; exact a3 c h1, fun i hi => ?_, fun i hi => ?_, fun m hm hn => ?_⟩
    · have : i = 0 := by omega
      rw [this, wI_ne (by omega), wI_at, pk_us]
    · rw [wI_at, pk_us]; rfl
    · rw [wI_at, pk_un (fun q => hn 0 (by omega) q.symm), wI_ne (by omega)]; exact a4 m hm
  have hb2 : bI (Gs (um.1 1)) nF m0 256 0 0 (fun _ => m0) (fun _ => 0) (fun _ => 0) (fun _ => 0) 1 := b_start hm _ _ _ _ rfl rfl
  have outer : ∀ (k nx q : Nat) (u : zS) (Q par lab lev : Nat → Nat) (R : Nat), nx + k = 257 → k < q → nx ≤ R → bI (Gs (um.1 1)) nF m0 256 nx 0 Q par lab lev R → xM um u Q lev R → ∃ v Q par lab lev R', f_X6_laysFar_L41 N q u (nI R) (nI nx) = some (nI R', v) ∧ bE (Gs (um.1 1)) nF m0 256 Q par lab lev R' ∧ xM um v Q lev R' := by
    intro k
    induction k with
    | zero =>
      intro nx q u Q par lab lev R h1 h2 h3 h4 h5
      have := b_le h4
      omega
    | succ k ih =>
      intro nx q u Q par lab lev R h1 h2 h3 h4 h5
      obtain ⟨q, rfl⟩ : ∃ z, q = z + 1 := ⟨q - 1, by omega⟩
      have hR := b_le h4
      have eC : f_X6_laysFar_L41 N (q + 1) u (nI R) (nI nx) = f_X6_laysFar_L41_B N (f_X6_laysFar_L41 N q) u (nI R) (nI nx) := rfl
      rw [eC]
      unfold f_X6_laysFar_L41_B
      by_cases e : nx = R
      · subst e
        rw [if_pos (nI_le (Nat.le_refl _) (by omega))]
        exact ⟨u, Q, par, lab, lev, nx, rfl, h4, h5⟩
      rw [if_neg (nI_ge (by omega) (by omega))]
      obtain ⟨v, v1, Q', par', lab', lev', R', v2, v3, v4, v5⟩ := for_loop (L := fun q (s : Int32 × zS) i => f_X6_laysFar_L49 N (nI nx) q s.2 s.1 i) (n := nF) (fun j s => ∃ Q par lab lev R, bI (Gs (um.1 1)) nF m0 256 nx j Q par lab lev R ∧ xM um s.2 Q lev R ∧ nx < R ∧ s.1 = nI R)
        (fun q x hI => by
          obtain ⟨Q, par, lab, lev, R, g1, g2, g3, g4⟩ := hI
          show f_X6_laysFar_L49_B N _ _ _ _ _ = _
          unfold f_X6_laysFar_L49_B
          rw [g2.2.1 1 (by omega) (by omega), ho.1.2.1, if_pos (nI_le (Nat.le_refl _) (by omega))])
        (fun q x j hj hI => by
          obtain ⟨Q, par, lab, lev, R, g1, g2, g3, g4⟩ := hI
          have hR2 := b_le g1
          have hQ := g1.2.2.2.2.2
          have hqx := hQ nx g3
          have hmm := Gs_lt ho hj (Q nx)
          have eL : f_X6_laysFar_L49 N (nI nx) (q + 1) x.2 x.1 (nI j) = if x.2.1 7 (Gs (um.1 1) j (Q nx)) = nI 1000000 then f_X6_laysFar_L49 N (nI nx) q (wI (wI x.2 7 (Gs (um.1 1) j (Q nx)) (nI (lev nx + 1))) 8 R (nI (Gs (um.1 1) j (Q nx)))) (nI (R + 1)) (nI (j + 1)) else f_X6_laysFar_L49 N (nI nx) q x.2 x.1 (nI (j + 1)) := by
            show f_X6_laysFar_L49_B N _ _ _ _ _ = _
            unfold f_X6_laysFar_L49_B
            rw [g2.2.1 1 (by omega) (by omega), ho.1.2.1, if_neg (nI_ge (by omega) (by omega)), og_nI (i := nx) (n := 256) (by omega) (by omega), nI_clamp (show nx < 2 ^ 31 by omega), g2.2.2.1 nx g3, setLedM_eq (by omega) (g2.2.1 1 (by omega) (by omega)) ho hj hqx, ob_s, og_nI hmm (by omega), nI_clamp (show Gs (um.1 1) j (Q nx) < 2 ^ 31 by omega), show nI j + 1 = nI (j + 1) from nI_1 j]
            by_cases hc : x.2.1 7 (Gs (um.1 1) j (Q nx)) = nI 1000000
            · have hnf : ∀ i, i < R → Q i ≠ Gs (um.1 1) j (Q nx) := fun i hi e => by
                have hl := b_lev g1 i hi
                rw [← e, g2.2.2.2.1 i hi] at hc
                have := (nI_eq (by omega) (by omega)).mp hc
                omega
              have hlt := b_lt g1 hmm hnf
              rw [if_pos hc, if_pos (show x.2.1 7 (Gs (um.1 1) j (Q nx)) = 1000000 from hc), og_nI (i := nx) (n := 256) (by omega) (by omega), og_nI hqx (by omega), og_nI hmm (by omega), nI_clamp (show Q nx < 2 ^ 31 by omega), g2.2.2.2.1 nx g3, show nI (lev nx) + 1 = nI (lev nx + 1) from nI_1 _, ol, g4, og_nI hlt (by omega), nI_clamp (show R < 2 ^ 31 by omega), ol, show nI R + 1 = nI (R + 1) from nI_1 R]
            · rw [if_neg hc, if_neg (show ¬ x.2.1 7 (Gs (um.1 1) j (Q nx)) = 1000000 from hc)]
          by_cases ex : ∃ i, i < R ∧ Q i = Gs (um.1 1) j (Q nx)
          · obtain ⟨i, hi, e⟩ := ex
            have hl := b_lev g1 i hi
            refine ⟨x, ⟨Q, par, lab, lev, R, b_old g1 hi e, g2, g3, g4⟩, ?_⟩
            show f_X6_laysFar_L49 N (nI nx) (q + 1) x.2 x.1 (nI j) = _
            rw [eL, if_neg]
            rw [← e, g2.2.2.2.1 i hi]
            intro hc
            have := (nI_eq (by omega) (by omega)).mp hc
            omega
          · have hn : ∀ i, i < R → Q i ≠ Gs (um.1 1) j (Q nx) := fun i hi e => ex ⟨i, hi, e⟩
            have hnb := b_new g1 g3 hj hn hmm
            have hc := g2.2.2.2.2 _ hmm hn
            rw [if_pos hc] at eL
            generalize Gs (um.1 1) j (Q nx) = m at *
            obtain ⟨k1, k2, k3, k4, k5⟩ := g2
            refine ⟨(nI (R + 1), wI (wI x.2 7 m (nI (lev nx + 1))) 8 R (nI m)), ⟨_, _, _, _, _, hnb, ⟨k1, fun c c1 c2 => by rw [wI_ne c2, wI_ne c1]; exact k2 c c1 c2, fun i hi => ?_, fun i hi => ?_, fun z hz hz2 => ?_⟩, by omega, rfl⟩, eL⟩
            · rw [wI_at]
              by_cases e : i = R
              · rw [e, pk_us, sa_s]
              · rw [pk_un e, sa_n e, wI_ne (by omega)]; exact k3 i (by omega)
            · rw [wI_ne (by omega), wI_at]
              by_cases e : i = R
              · rw [e, sa_s, sa_s, pk_us]
              · rw [sa_n e, sa_n e, pk_un (hn i (by omega))]; exact k4 i (by omega)
            · have q1 := hz2 R (by omega)
              rw [sa_s] at q1
              rw [wI_ne (by omega), wI_at, pk_un (fun q => q1 q.symm)]
              refine k5 z hz (fun i hi => ?_)
              have := hz2 i (by omega)
              rw [sa_n (by omega)] at this
              exact this)
        nF 0 N (nI R, u) (by omega) (by omega) ⟨Q, par, lab, lev, R, h4, h5, by omega, rfl⟩
      rw [show f_X6_laysFar_L49 N (nI nx) N u (nI R) 0 = some v from v1, ob_s, show nI nx + 1 = nI (nx + 1) from nI_1 nx, v5]
      exact ih (nx + 1) q v.2 Q' par' lab' lev' R' (by omega) (by omega) (by omega) (b_next v2) v3
  obtain ⟨v, Q, par, lab, lev, R, z1, z2, z3⟩ := outer 257 0 N u2 _ _ _ _ 1 (by omega) (by omega) (by omega) hb2 hx2
  rw [show f_X6_laysFar_L41 N N u2 1 0 = some (nI R, v) from z1, ob_s]
  exact ⟨v, Q, par, lab, lev, R, rfl, z2, z3⟩
theorem RR_search {uc um vc vm : zS} {Q par lab lev : Nat → Nat} {R : Nat} (h : RR uc um) (hc : xC uc vc Q par lab lev R) (h2 : vm.2 = um.2) (hm : ∀ c, c < 7 → vm.1 c = um.1 c) : RR vc vm := by
  have o := hc.2.1
  exact RR_now h (rgR_same h.1 (fun c g1 g2 => o c (by omega)) (fun k _ => by rw [hm 1 (by omega)])) ⟨o 0 (by omega), fun c g1 g2 => o c (by omega), o 31 (by omega), o 32 (by omega), o 34 (by omega), o 35 (by omega), by rw [hc.1]⟩ ⟨by rw [hm 0 (by omega)], by rw [hm 0 (by omega)], hm 2 (by omega), hm 4 (by omega), hm 5 (by omega), by rw [h2], fun k _ _ => by rw [hm 1 (by omega)]⟩
theorem ok_sorts {N : Nat} {uc um : zS} (hN : 1000 ≤ N) (h : RR uc um) : op_sorts N RR uc um := by
  unfold op_sorts f_X5_sorts f_X6_sorts
  obtain ⟨nA, nF, nT, nB, kn, sl, hG⟩ := h.1
  have hG : RG uc um nA nF nT nB kn sl := hG
  obtain ⟨s1, s2⟩ := RG_stand (N := N) (by omega) hG
  obtain ⟨m, hm, em⟩ := stF_lt hG.1.2.2.2.1
  have h7 : uc.1 1 7 = nI nF := hG.2.1.2.1.trans hG.1.1.2.1
  obtain ⟨v, Q, par, lab, lev, R, z1, z2, z3⟩ := explore_eq hN hG.1 hG.2.t h7 hm
  obtain ⟨w, Q2, par2, lab2, lev2, R2, y1, y2, y3⟩ := laysFar_eq hN hG.1 hm
  have e : R = R2 := Nat.le_antisymm (e_same z2 y2) (e_same y2 z2)
  rw [s1, s2, ob_s, ob_s, em, z1, y1, ob_s, ob_s, z3.2.2.1, e]
  exact ⟨_, _, _, rfl, rfl, RR_search h z3 y3.1 (fun c hc => y3.2.1 c (by omega) (by omega))⟩
