/-! apart: pairs in order, and pairs as sets -/
def pi8 (c : Nat) : Nat := 2 ^ (c / 8) ||| 2 ^ (c % 8)
def Gp (W : Nat → Int32) (f c : Nat) : Nat := 8 * Lp W f (c / 8) + Lp W f (c % 8)
theorem pi_lt {c : Nat} (h : c < 64) : pi8 c < 256 := Nat.or_lt_two_pow (n := 8) (Nat.pow_lt_pow_right (by omega) (by omega)) (Nat.pow_lt_pow_right (by omega) (by omega))
theorem hold2 : ∀ p, p < 8 → ∀ q, q < 8 → ∀ z, z < 8 → (f_X5_holds (nI (2 ^ p ||| 2 ^ q)) (nI z) = 0 ↔ ¬ z = p ∧ ¬ z = q) := by decide +kernel
theorem gs_pair (W : Nat → Int32) (f : Nat) {p q : Nat} (hp : p < 8) (hq : q < 8) : ∀ n, n ≤ 8 → gs W f (2 ^ p ||| 2 ^ q) n = (if p < n then 2 ^ Lp W f p else 0) ||| (if q < n then 2 ^ Lp W f q else 0)
  | 0, _ => by rw [if_neg (by omega), if_neg (by omega)]; rfl
  | n + 1, hn => by
    simp only [gs]
    rw [gs_pair W f hp hq n (by omega)]
    by_cases e1 : n = p
    · by_cases e2 : n = q
      · rw [if_neg (fun z => ((hold2 p hp q hq n (by omega)).mp z).1 e1), if_neg (by omega), if_neg (by omega), if_pos (by omega), if_pos (by omega), ← e1, ← e2, Nat.or_self, Nat.zero_or, Nat.or_self]
      · rw [if_neg (fun z => ((hold2 p hp q hq n (by omega)).mp z).1 e1), if_neg (show ¬ p < n by omega), if_pos (show p < n + 1 by omega), Nat.zero_or, Nat.or_comm, e1]
        by_cases e3 : q < n
        · rw [if_pos (by omega), if_pos (by omega)]
        · rw [if_neg (by omega), if_neg (by omega)]
    · by_cases e2 : n = q
      · rw [if_neg (fun z => ((hold2 p hp q hq n (by omega)).mp z).2 e2), if_neg (show ¬ q < n by omega), if_pos (show q < n + 1 by omega), Nat.or_zero, e2]
        by_cases e3 : p < n
        · rw [if_pos (by omega), if_pos (by omega)]
        · rw [if_neg (by omega), if_neg (by omega)]
      · rw [if_pos ((hold2 p hp q hq n (by omega)).mpr ⟨e1, e2⟩)]
        by_cases e3 : p < n
        · rw [if_pos e3, if_pos (show p < n + 1 by omega)]
          by_cases e4 : q < n
          · rw [if_pos e4, if_pos (by omega)]
          · rw [if_neg e4, if_neg (by omega)]
        · rw [if_neg e3, if_neg (show ¬ p < n + 1 by omega)]
          by_cases e4 : q < n
          · rw [if_pos e4, if_pos (by omega)]
          · rw [if_neg e4, if_neg (by omega)]
theorem Gp_ok {W : Nat → Int32} {nA nF nT nB kn f c : Nat} (ho : okW W nA nF nT nB kn) (hf : f < nF) (hc : c < 64) : Gp W f c < 64 ∧ Gs W f (pi8 c) = pi8 (Gp W f c) := by
  have l1 := (Lp_ok ho hf (show c / 8 < 8 by omega)).2
  have l2 := (Lp_ok ho hf (show c % 8 < 8 by omega)).2
  unfold Gp Gs pi8
  refine ⟨by omega, ?_⟩
  rw [gs_pair W f (show c / 8 < 8 by omega) (show c % 8 < 8 by omega) 8 (by omega), if_pos (by omega), if_pos (by omega), show (8 * Lp W f (c / 8) + Lp W f (c % 8)) / 8 = Lp W f (c / 8) by omega, show (8 * Lp W f (c / 8) + Lp W f (c % 8)) % 8 = Lp W f (c % 8) by omega]
theorem fw_pair {W : Nat → Int32} {nA nF nT nB kn c0 : Nat} (ho : okW W nA nF nT nB kn) (h0 : c0 < 64) : ∀ k c, fw (Gp W) nF c0 k c → c < 64 ∧ fw (Gs W) nF (pi8 c0) k (pi8 c)
  | 0, c, h => by rw [show c = c0 from h]; exact ⟨h0, rfl⟩
  | k + 1, c, ⟨f, d, hf, h1, h2⟩ => by
    obtain ⟨g1, g2⟩ := fw_pair ho h0 k d h1
    obtain ⟨k1, k2⟩ := Gp_ok ho hf g1
    rw [← h2]
    exact ⟨k1, f, pi8 d, hf, g2, k2⟩
theorem fw_set {W : Nat → Int32} {nA nF nT nB kn c0 : Nat} (ho : okW W nA nF nT nB kn) (h0 : c0 < 64) : ∀ k m, fw (Gs W) nF (pi8 c0) k m → ∃ c, fw (Gp W) nF c0 k c ∧ m = pi8 c
  | 0, m, h => ⟨c0, rfl, h⟩
  | k + 1, m, ⟨f, d, hf, h1, h2⟩ => by
    obtain ⟨c, g1, g2⟩ := fw_set ho h0 k d h1
    have hc := (fw_pair ho h0 k c g1).1
    refine ⟨Gp W f c, ⟨f, c, hf, g1, rfl⟩, ?_⟩
    rw [← h2, g2]
    exact (Gp_ok ho hf hc).2
/-! how wide -/
def ap (c : Nat) : Nat := (f_X6_apartBy (nI (c / 8)) (nI (c % 8))).toNatClampNeg
theorem ap_ok : ∀ c, c < 64 → f_X6_apartBy (nI (c / 8)) (nI (c % 8)) = nI (ap c) ∧ ap c ≤ 4 := by decide +kernel
def s9 (v0 v1 : Int32) : Nat → Int32 → Bool
  | 0, _ => false
  | k + 1, v2 => if f_X5_holds v0 v2 = 0 then s9 v0 v1 k (v2 + 1) else if f_X5_holds v0 (v2 + v1) = 0 then s9 v0 v1 k (v2 + 1) else true
def s4 (v0 : Int32) : Nat → Nat → Nat
  | 0, _ => 0
  | k + 1, v => if s9 v0 (nI v) 8 0 = true then v else s4 v0 k (v + 1)
def sp (m : Nat) : Nat := s4 (nI m) 4 1
theorem sp_pi : ∀ c, c < 64 → sp (pi8 c) = ap c := by decide +kernel
theorem s4_le (v0 : Int32) : ∀ k v, s4 v0 k v ≤ v + k
  | 0, v => by show 0 ≤ _; omega
  | k + 1, v => by
    simp only [s4]
    have := s4_le v0 k (v + 1)
    split <;> omega
theorem sp_le (m : Nat) : sp m ≤ 5 := s4_le _ 4 1
theorem span_eq {N m : Nat} (hN : 300 ≤ N) : f_X5_span N (nI m) = some (nI (sp m)) := by
  have k9 : ∀ (v : Nat) (k j q : Nat), j + k = 8 → k < q → f_X5_span_L9 N (nI m) (nI v) q (nI j) = some (if s9 (nI m) (nI v) k (nI j) = true then .inl (nI v) else .inr ()) := by
    intro v k
    induction k with
    | zero =>
      intro j q h1 h2
      obtain ⟨q, rfl⟩ : ∃ z, q = z + 1 := ⟨q - 1, by omega⟩
      have : j = 8 := by omega
      subst this
      show f_X5_span_L9_B N _ _ _ _ = _
      unfold f_X5_span_L9_B
      rw [if_pos (show (8 : Int32) ≤ nI 8 by decide)]
      rfl
    | succ k ih =>
      intro j q h1 h2
      obtain ⟨q, rfl⟩ : ∃ z, q = z + 1 := ⟨q - 1, by omega⟩
      have nx := ih (j + 1) q (by omega) (by omega)
      show f_X5_span_L9_B N _ _ _ _ = _
      unfold f_X5_span_L9_B
      have es : s9 (nI m) (nI v) (k + 1) (nI j) = if f_X5_holds (nI m) (nI j) = 0 then s9 (nI m) (nI v) k (nI j + 1) else if f_X5_holds (nI m) (nI j + nI v) = 0 then s9 (nI m) (nI v) k (nI j + 1) else true := rfl
      rw [show nI j + 1 = nI (j + 1) from nI_1 j] at es
      rw [if_neg (show ¬ (8 : Int32) ≤ nI j from nI_ge (a := j) (b := 8) (by omega) (by omega)), show nI j + 1 = nI (j + 1) from nI_1 j]
      by_cases c1 : f_X5_holds (nI m) (nI j) = 0
      · rw [if_pos c1] at es ⊢; rw [es]; exact nx
      · rw [if_neg c1] at es ⊢
        by_cases c2 : f_X5_holds (nI m) (nI j + nI v) = 0
        · rw [if_pos c2] at es ⊢; rw [es]; exact nx
        · rw [if_neg c2] at es ⊢; rw [es, if_pos rfl]
  have k4 : ∀ (k v q : Nat), v + k = 5 → 1 ≤ v → k < q → (os (f_X5_span_L2 N (nI m) q (nI v)) (fun q8 => some q8) fun q7 => some 0) = some (nI (s4 (nI m) k v)) := by
    intro k
    induction k with
    | zero =>
      intro v q h1 h2 h3
      obtain ⟨q, rfl⟩ : ∃ z, q = z + 1 := ⟨q - 1, by omega⟩
      have : v = 5 := by omega
      subst this
      have e : f_X5_span_L2 N (nI m) (q + 1) (nI 5) = some (.inr ()) := by
        show f_X5_span_L2_B N _ _ _ = _
        unfold f_X5_span_L2_B
        rw [if_pos (show (4 : Int32) < nI 5 by decide)]
      rw [e, os_r]; rfl
    | succ k ih =>
      intro v q h1 h2 h3
      obtain ⟨q, rfl⟩ : ∃ z, q = z + 1 := ⟨q - 1, by omega⟩
      have e : f_X5_span_L2 N (nI m) (q + 1) (nI v) = if s9 (nI m) (nI v) 8 0 = true then some (.inl (nI v)) else f_X5_span_L2 N (nI m) q (nI (v + 1)) := by
        show f_X5_span_L2_B N _ _ _ = _
        unfold f_X5_span_L2_B
        rw [if_neg (show ¬ (4 : Int32) < nI v from nI_nlt (a := 4) (b := v) (by omega) (by omega)), show f_X5_span_L9 N (nI m) (nI v) N 0 = _ from k9 v 8 0 N (by omega) (by omega), show nI v + 1 = nI (v + 1) from nI_1 v]
        by_cases c : s9 (nI m) (nI v) 8 0 = true
        · rw [if_pos c, if_pos (show s9 (nI m) (nI v) 8 (nI 0) = true from c), os_l]
        · rw [if_neg c, if_neg (show ¬ s9 (nI m) (nI v) 8 (nI 0) = true from c), os_r]
      rw [e]
      simp only [s4]
      by_cases c : s9 (nI m) (nI v) 8 0 = true
      · rw [if_pos c, if_pos c, os_l]
      · rw [if_neg c, if_neg c]; exact ih (v + 1) q (by omega) (by omega) (by omega)
  unfold f_X5_span sp
  exact k4 4 1 N (by omega) (by omega) (by omega)
/-- the first of the widest -/
def fst4 (g : Nat → Nat) (n b : Nat) : Prop := b < n ∧ (∀ i, i < n → g i ≤ g b) ∧ ∀ i, i < b → g i < g b
theorem fst4_s {g : Nat → Nat} {n b : Nat} (h : fst4 g n b) : fst4 g (n + 1) (if g n ≤ g b then b else n) := by
  obtain ⟨h1, h2, h3⟩ := h
  by_cases c : g n ≤ g b
  · rw [if_pos c]
    refine ⟨by omega, fun i hi => ?_, h3⟩
    by_cases e : i = n
    · rw [e]; exact c
    · exact h2 i (by omega)
  · rw [if_neg c]
    refine ⟨by omega, fun i hi => ?_, fun i hi => ?_⟩
    · by_cases e : i = n
      · rw [e]; exact Nat.le_refl _
      · have := h2 i (by omega); omega
    · have := h2 i hi; omega
theorem widest_eq {N : Nat} {uc v : zS} {Q par lab lev : Nat → Nat} {R : Nat} (hN : 1000 ≤ N) (h0 : 1 ≤ R) (hR : R ≤ 256) (hx : xC uc v Q par lab lev R) : ∃ b, f_X2_widestPair N v = some (nI (Q b)) ∧ fst4 (fun i => sp (Q i)) R b := by
  have key : ∀ (k j q b : Nat), j + k = R → k < q → fst4 (fun i => sp (Q i)) j b → ∃ b', f_X2_widestPair_L9 N v q (nI (Q b)) (nI j) = some (nI (Q b')) ∧ fst4 (fun i => sp (Q i)) R b' := by
    intro k
    induction k with
    | zero =>
      intro j q b h1 h2 h3
      obtain ⟨q, rfl⟩ : ∃ z, q = z + 1 := ⟨q - 1, by omega⟩
      have : j = R := by omega
      subst this
      refine ⟨b, ?_, h3⟩
      show f_X2_widestPair_L9_B N _ _ _ _ = _
      unfold f_X2_widestPair_L9_B
      rw [hx.2.2.1, if_pos (nI_le (Nat.le_refl _) (by omega))]
    | succ k ih =>
      intro j q b h1 h2 h3
      obtain ⟨q, rfl⟩ : ∃ z, q = z + 1 := ⟨q - 1, by omega⟩
      have nx := ih (j + 1) q _ (by omega) (by omega) (fst4_s h3)
      have l1 := sp_le (Q j)
      have l2 := sp_le (Q b)
      have e : f_X2_widestPair_L9 N v (q + 1) (nI (Q b)) (nI j) = f_X2_widestPair_L9 N v q (nI (Q (if sp (Q j) ≤ sp (Q b) then b else j))) (nI (j + 1)) := by
        show f_X2_widestPair_L9_B N _ _ _ _ = _
        unfold f_X2_widestPair_L9_B
        rw [hx.2.2.1, if_neg (nI_ge (by omega) (by omega)), og_nI (by omega) (by omega), nI_clamp (by omega), hx.2.2.2.1 j (by omega), span_eq (by omega), ob_s, span_eq (by omega), ob_s, ol, og_nI (by omega) (by omega), show nI j + 1 = nI (j + 1) from nI_1 j]
        by_cases c : sp (Q j) ≤ sp (Q b)
        · rw [if_pos (nI_le c (by omega)), if_pos c]
        · rw [if_neg (nI_ge (by omega) (by omega)), if_neg c]
      rw [e]
      exact nx
  obtain ⟨b, g1, g2⟩ := key (R - 1) 1 N 0 (by omega) (by omega) ⟨by omega, fun i hi => by rw [show i = 0 by omega]; exact Nat.le_refl _, fun i hi => absurd hi (by omega)⟩
  unfold f_X2_widestPair
  rw [hx.2.2.2.1 0 (by omega), show f_X2_widestPair_L9 N v N (nI (Q 0)) 1 = _ from g1, ob_s]
  exact ⟨b, rfl, g2⟩
def xP (um w : zS) (Q lev : Nat → Nat) (R : Nat) : Prop := w.2 = um.2 ∧ (∀ c, c ≠ 8 → c ≠ 10 → w.1 c = um.1 c) ∧ (∀ i, i < R → w.1 8 i = nI (Q i)) ∧ (∀ i, i < R → w.1 10 (Q i) = nI (lev i)) ∧ ∀ m, m < 64 → (∀ i, i < R → Q i ≠ m) → w.1 10 m = nI 1000000
def bst (Q lev : Nat → Nat) (nx : Nat) (v5 v6 : Int32) : Prop := (nx = 0 ∧ v5 = 1000000 ∧ v6 = -1) ∨ ∃ b, fst4 (fun i => ap (Q i)) nx b ∧ v5 = nI (lev b) ∧ v6 = nI (ap (Q b))
theorem pairs_eq {N : Nat} {um u : zS} {nA nF nT nB kn c0 : Nat} (hN : 1000 ≤ N) (ho : okW (um.1 1) nA nF nT nB kn) (h0 : c0 < 64) (hu : xP um u (fun _ => c0) (fun _ => 0) 1) (v3 : Int32) : ∃ v Q par lab lev R b, f_X6_apart_L138 N v3 N u 1 1000000 (-1) 0 = some (nI (lev b), nI (ap (Q b)), v) ∧ bE (Gp (um.1 1)) nF c0 64 Q par lab lev R ∧ xP um v Q lev R ∧ fst4 (fun i => ap (Q i)) R b := by
  have hF := ho.2.1.2.1
  have figs : ∀ (nx : Nat) (v5 v6 v7 : Int32) (u : zS) (Q par lab lev : Nat → Nat) (R : Nat), nx < R → bI (Gp (um.1 1)) nF c0 64 nx 0 Q par lab lev R → xP um u Q lev R → ∃ v Q' par' lab' lev' R', f_X6_apart_L209 N v3 v5 v6 v7 (nI (Q nx)) N u (nI R) 0 = some (nI R', v) ∧ bI (Gp (um.1 1)) nF c0 64 nx nF Q' par' lab' lev' R' ∧ xP um v Q' lev' R' ∧ R ≤ R' ∧ ∀ i, i < R → Q' i = Q i ∧ lev' i = lev i := by
    intro nx v5 v6 v7 u Q0 par0 lab0 lev0 R0 hnx hb0 hz0
    have hq0 := hb0.2.2.2.2.2 nx hnx
    obtain ⟨v, v1, Q', par', lab', lev', R', v2, v3', v4, v5', v6'⟩ := for_loop (L := fun q (s : Int32 × zS) i => f_X6_apart_L209 N v3 v5 v6 v7 (nI (Q0 nx)) q s.2 s.1 i) (n := nF) (fun j s => ∃ Q par lab lev R, bI (Gp (um.1 1)) nF c0 64 nx j Q par lab lev R ∧ xP um s.2 Q lev R ∧ R0 ≤ R ∧ s.1 = nI R ∧ ∀ i, i < R0 → Q i = Q0 i ∧ lev i = lev0 i)
      (fun q x hI => by
        obtain ⟨Q, par, lab, lev, R, g1, g2, g3, g4, g5⟩ := hI
        show f_X6_apart_L209_B N _ _ _ _ _ _ _ _ _ = _
        unfold f_X6_apart_L209_B
        rw [g2.2.1 1 (by omega) (by omega), ho.1.2.1, if_pos (nI_le (Nat.le_refl _) (by omega))])
      (fun q x j hj hI => by
        obtain ⟨Q, par, lab, lev, R, g1, g2, g3, g4, g5⟩ := hI
        have hR2 := b_le g1
        have eq0 : Q nx = Q0 nx := (g5 nx hnx).1
        have hqx : Q nx < 64 := by rw [eq0]; exact hq0
        have hmm := (Gp_ok ho hj hqx).1
        obtain ⟨la, la2⟩ := Lp_ok ho hj (show Q nx / 8 < 8 by omega)
        obtain ⟨lb, lb2⟩ := Lp_ok ho hj (show Q nx % 8 < 8 by omega)
        have e1 : x.2.1 1 = um.1 1 := g2.2.1 1 (by omega) (by omega)
        have eL : f_X6_apart_L209 N v3 v5 v6 v7 (nI (Q0 nx)) (q + 1) x.2 x.1 (nI j) = if x.2.1 10 (Gp (um.1 1) j (Q nx)) = nI 1000000 then f_X6_apart_L209 N v3 v5 v6 v7 (nI (Q0 nx)) q (wI (wI x.2 10 (Gp (um.1 1) j (Q nx)) (nI (lev nx + 1))) 8 R (nI (Gp (um.1 1) j (Q nx)))) (nI (R + 1)) (nI (j + 1)) else f_X6_apart_L209 N v3 v5 v6 v7 (nI (Q0 nx)) q x.2 x.1 (nI (j + 1)) := by
          rw [← eq0]
          show f_X6_apart_L209_B N _ _ _ _ _ _ _ _ _ = _
          unfold f_X6_apart_L209_B
          rw [e1, ho.1.2.1, if_neg (nI_ge (by omega) (by omega)), show nI (Q nx) - nI (Q nx) / 8 * 8 = nI (Q nx % 8) from pk_rem (a := Q nx) (d := 8) (by omega) (by omega) (by omega), show nI (Q nx) / 8 = nI (Q nx / 8) from pk_div (a := Q nx) (d := 8) (by omega) (by omega) (by omega), leadsOf_eq (by omega), leadsOf_eq (by omega), e1, la, lb, ob_s, ob_s, show (8 : Int32) * nI (Lp (um.1 1) j (Q nx / 8)) = nI (8 * Lp (um.1 1) j (Q nx / 8)) from pk_mul 8 _, nI_add, show 8 * Lp (um.1 1) j (Q nx / 8) + Lp (um.1 1) j (Q nx % 8) = Gp (um.1 1) j (Q nx) from rfl, ol, og_nI hmm (by omega), nI_clamp (show Gp (um.1 1) j (Q nx) < 2 ^ 31 by omega), show nI j + 1 = nI (j + 1) from nI_1 j]
          by_cases hc : x.2.1 10 (Gp (um.1 1) j (Q nx)) = nI 1000000
          · have hnf : ∀ i, i < R → Q i ≠ Gp (um.1 1) j (Q nx) := fun i hi e => by
              have hl := b_lev g1 i hi
              rw [← e, g2.2.2.2.1 i hi] at hc
              have := (nI_eq (by omega) (by omega)).mp hc
              omega
            have hlt := b_lt g1 hmm hnf
            rw [if_pos hc, if_pos (show x.2.1 10 (Gp (um.1 1) j (Q nx)) = 1000000 from hc), og_nI hqx (by omega), og_nI hmm (by omega), nI_clamp (show Q nx < 2 ^ 31 by omega), g2.2.2.2.1 nx (by omega), show nI (lev nx) + 1 = nI (lev nx + 1) from nI_1 _, ol, g4, og_nI (show R < 256 by omega) (by omega), nI_clamp (show R < 2 ^ 31 by omega), ol, show nI R + 1 = nI (R + 1) from nI_1 R]
          · rw [if_neg hc, if_neg (show ¬ x.2.1 10 (Gp (um.1 1) j (Q nx)) = 1000000 from hc)]
        by_cases ex : ∃ i, i < R ∧ Q i = Gp (um.1 1) j (Q nx)
        · obtain ⟨i, hi, e⟩ := ex
          have hl := b_lev g1 i hi
          refine ⟨x, ⟨Q, par, lab, lev, R, b_old g1 hi e, g2, g3, g4, g5⟩, ?_⟩
          show f_X6_apart_L209 N v3 v5 v6 v7 (nI (Q0 nx)) (q + 1) x.2 x.1 (nI j) = _
          rw [eL, if_neg]
          rw [← e, g2.2.2.2.1 i hi]
          intro hc
          have := (nI_eq (by omega) (by omega)).mp hc
          omega
        · have hn : ∀ i, i < R → Q i ≠ Gp (um.1 1) j (Q nx) := fun i hi e => ex ⟨i, hi, e⟩
          have hnb := b_new g1 (show nx < R by omega) hj hn hmm
          have hc := g2.2.2.2.2 _ hmm hn
          rw [if_pos hc] at eL
          generalize Gp (um.1 1) j (Q nx) = m at *
          obtain ⟨k1, k2, k3, k4, k5⟩ := g2
          refine ⟨(nI (R + 1), wI (wI x.2 10 m (nI (lev nx + 1))) 8 R (nI m)), ⟨_, _, _, _, _, hnb, ⟨k1, fun c c1 c2 => by rw [wI_ne c1, wI_ne c2]; exact k2 c c1 c2, fun i hi => ?_, fun i hi => ?_, fun z hz hz2 => ?_⟩, by omega, rfl, fun i hi => by rw [sa_n (by omega), sa_n (by omega)]; exact g5 i hi⟩, eL⟩
          · rw [wI_at]
            by_cases e : i = R
            · rw [e, pk_us, sa_s]
            · rw [pk_un e, sa_n e, wI_ne (by omega)]; exact k3 i (by omega)
          · rw [wI_ne (by omega), wI_at]
            by_cases e : i = R
            · rw [e, sa_s, sa_s, pk_us]
            · rw [sa_n e, sa_n e, pk_un (hn i (by omega))]; exact k4 i (by omega)
          · have q1 := hz2 R (by omega)
            rw [sa_s] at q1
            rw [wI_ne (by omega), wI_at, pk_un (fun q => q1 q.symm)]
            refine k5 z hz (fun i hi => ?_)
            have := hz2 i (by omega)
            rw [sa_n (by omega)] at this
            exact this)
      nF 0 N (nI R0, u) (by omega) (by omega) ⟨Q0, par0, lab0, lev0, R0, hb0, hz0, Nat.le_refl _, rfl, fun _ _ => ⟨rfl, rfl⟩⟩
    refine ⟨v.2, Q', par', lab', lev', R', ?_, v2, v3', v4, v6'⟩
    rw [show f_X6_apart_L209 N v3 v5 v6 v7 (nI (Q0 nx)) N u (nI R0) 0 = some v from v1, ← v5']
  have outer : ∀ (k nx q : Nat) (u : zS) (Q par lab lev : Nat → Nat) (R : Nat) (v5 v6 : Int32), nx + k = 65 → k < q → nx ≤ R → bI (Gp (um.1 1)) nF c0 64 nx 0 Q par lab lev R → xP um u Q lev R → bst Q lev nx v5 v6 → ∃ v Q par lab lev R' b, f_X6_apart_L138 N v3 q u (nI R) v5 v6 (nI nx) = some (nI (lev b), nI (ap (Q b)), v) ∧ bE (Gp (um.1 1)) nF c0 64 Q par lab lev R' ∧ xP um v Q lev R' ∧ fst4 (fun i => ap (Q i)) R' b := by
    intro k
    induction k with
    | zero =>
      intro nx q u Q par lab lev R v5 v6 h1 h2 h3 h4 h5 h6
      have := b_le h4
      omega
    | succ k ih =>
      intro nx q u Q par lab lev R v5 v6 h1 h2 h3 h4 h5 h6
      obtain ⟨q, rfl⟩ : ∃ z, q = z + 1 := ⟨q - 1, by omega⟩
      have hR := b_le h4
      have hR0 := h4.1.1
      have eC : f_X6_apart_L138 N v3 (q + 1) u (nI R) v5 v6 (nI nx) = f_X6_apart_L138_B N v3 (f_X6_apart_L138 N v3 q) u (nI R) v5 v6 (nI nx) := rfl
      by_cases e : nx = R
      · subst e
        rcases h6 with ⟨h6, _, _⟩ | ⟨b, g1, g2, g3⟩
        · omega
        · refine ⟨u, Q, par, lab, lev, nx, b, ?_, h4, h5, g1⟩
          rw [eC]
          unfold f_X6_apart_L138_B
          rw [if_pos (nI_le (Nat.le_refl _) (by omega)), g2, g3]
      have hnx : nx < R := by omega
      have hq := h4.2.2.2.2.2 nx hnx
      obtain ⟨p1, p2⟩ := ap_ok (Q nx) hq
      have hl := b_lev h4 nx hnx
      -- the best so far, with this pair
      obtain ⟨w5, w6, hb, hst⟩ : ∃ w5 w6, bst Q lev (nx + 1) w5 w6 ∧ f_X6_apart_L138 N v3 (q + 1) u (nI R) v5 v6 (nI nx) = ob (f_X6_apart_L209 N v3 w5 w6 (nI nx) (nI (Q nx)) N u (nI R) 0) fun q35 => f_X6_apart_L138 N v3 q q35.2 q35.1 w5 w6 (nI (nx + 1)) := by
        have step : f_X6_apart_L138 N v3 (q + 1) u (nI R) v5 v6 (nI nx) = if nI (ap (Q nx)) ≤ v6 then (ob (f_X6_apart_L209 N v3 v5 v6 (nI nx) (nI (Q nx)) N u (nI R) 0) fun q35 => f_X6_apart_L138 N v3 q q35.2 q35.1 v5 v6 (nI (nx + 1))) else (ob (f_X6_apart_L209 N v3 (nI (lev nx)) (nI (ap (Q nx))) (nI nx) (nI (Q nx)) N u (nI R) 0) fun q35 => f_X6_apart_L138 N v3 q q35.2 q35.1 (nI (lev nx)) (nI (ap (Q nx))) (nI (nx + 1))) := by
          rw [eC]
          unfold f_X6_apart_L138_B f_X6_apart_J188 f_X6_apart_J204
          rw [if_neg (nI_ge (by omega) (by omega)), og_nI (show nx < 256 by omega) (by omega), nI_clamp (show nx < 2 ^ 31 by omega), h5.2.2.1 nx hnx, ol, show nI (Q nx) - nI (Q nx) / 8 * 8 = nI (Q nx % 8) from pk_rem (a := Q nx) (d := 8) (by omega) (by omega) (by omega), show nI (Q nx) / 8 = nI (Q nx / 8) from pk_div (a := Q nx) (d := 8) (by omega) (by omega) (by omega), p1, ol, og_nI hq (by omega), nI_clamp (show Q nx < 2 ^ 31 by omega), h5.2.2.2.1 nx hnx, show nI nx + 1 = nI (nx + 1) from nI_1 nx]
          by_cases c : nI (ap (Q nx)) ≤ v6
          · rw [if_pos c, if_pos c, if_pos c]
          · rw [if_neg c, if_neg c, if_neg c]
        rcases h6 with ⟨g1, g2, g3⟩ | ⟨b, g1, g2, g3⟩
        · subst g1
          refine ⟨_, _, ?_, by rw [step, if_neg (show ¬ nI (ap (Q 0)) ≤ v6 by
            rw [g3, fa_le, nI_toInt (by omega), show (-1 : Int32).toInt = -1 by decide]; omega)]⟩
          exact Or.inr ⟨0, ⟨by omega, fun i hi => by rw [show i = 0 by omega]; exact Nat.le_refl _, fun i hi => absurd hi (by omega)⟩, rfl, rfl⟩
        · have hb2 : ap (Q b) ≤ 4 := (ap_ok (Q b) (h4.2.2.2.2.2 b (by have := g1.1; omega))).2
          have ns := fst4_s g1
          by_cases c : ap (Q nx) ≤ ap (Q b)
          · have ns : fst4 (fun i => ap (Q i)) (nx + 1) b := by
              have := ns
              rw [if_pos (show (fun i => ap (Q i)) nx ≤ (fun i => ap (Q i)) b from c)] at this
              exact this
            exact ⟨v5, v6, Or.inr ⟨b, ns, g2, g3⟩, by rw [step, if_pos (by rw [g3]; exact nI_le c (by omega))]⟩
          · have ns : fst4 (fun i => ap (Q i)) (nx + 1) nx := by
              have := ns
              rw [if_neg (show ¬ (fun i => ap (Q i)) nx ≤ (fun i => ap (Q i)) b from c)] at this
              exact this
            exact ⟨_, _, Or.inr ⟨nx, ns, rfl, rfl⟩, by rw [step, if_neg (by rw [g3]; exact nI_ge (by omega) (by omega))]⟩
      obtain ⟨v, Q', par', lab', lev', R', y1, y2, y3, y4, y5⟩ := figs nx w5 w6 (nI nx) u Q par lab lev R hnx h4 h5
      rw [hst, y1, ob_s]
      refine ih (nx + 1) q v Q' par' lab' lev' R' w5 w6 (by omega) (by omega) (by omega) (b_next y2) y3 ?_
      rcases hb with ⟨g1, _, _⟩ | ⟨b, g1, g2, g3⟩
      · omega
      · have gb := g1.1
        refine Or.inr ⟨b, ⟨gb, fun i hi => ?_, fun i hi => ?_⟩, by rw [g2, (y5 b (by omega)).2], by rw [g3, (y5 b (by omega)).1]⟩
        · show ap (Q' i) ≤ ap (Q' b)
          rw [(y5 i (by omega)).1, (y5 b (by omega)).1]; exact g1.2.1 i hi
        · show ap (Q' i) < ap (Q' b)
          rw [(y5 i (by omega)).1, (y5 b (by omega)).1]; exact g1.2.2 i hi
  exact outer 65 0 N u _ _ _ _ 1 _ _ (by omega) (by omega) (by omega) (b_start h0 _ (fun _ => 0) (fun _ => 0) _ rfl rfl) hu (Or.inl ⟨rfl, rfl, rfl⟩)
theorem same_best {W : Nat → Int32} {nA nF nT nB kn c0 R R2 b b2 : Nat} {Q par lab lev Q2 par2 lab2 lev2 : Nat → Nat} (ho : okW W nA nF nT nB kn) (h0 : c0 < 64) (h : bE (Gs W) nF (pi8 c0) 256 Q par lab lev R) (h2 : bE (Gp W) nF c0 64 Q2 par2 lab2 lev2 R2) (hb : fst4 (fun i => sp (Q i)) R b) (hb2 : fst4 (fun i => ap (Q2 i)) R2 b2) : sp (Q b) = ap (Q2 b2) ∧ lev b = lev2 b2 := by
  obtain ⟨x1, x2, x3⟩ := hb
  obtain ⟨y1, y2, y3⟩ := hb2
  -- the best pair is a set that is come to
  obtain ⟨f1, f2⟩ := fw_pair ho h0 _ _ (e_fw h2 b2 y1)
  obtain ⟨i, i1, i2, i3⟩ := e_has h _ _ f2
  have s1 : sp (Q i) = ap (Q2 b2) := by rw [i2]; exact sp_pi _ f1
  -- the best set is a pair that is come to
  obtain ⟨c, c1, c2⟩ := fw_set ho h0 _ _ (e_fw h b x1)
  obtain ⟨j, j1, j2, j3⟩ := e_has h2 _ _ c1
  have s2 : ap (Q2 j) = sp (Q b) := by rw [j2, c2]; exact (sp_pi c (fw_pair ho h0 _ _ c1).1).symm
  have a1 : sp (Q i) ≤ sp (Q b) := x2 i i1
  have a2 : ap (Q2 j) ≤ ap (Q2 b2) := y2 j j1
  have es : sp (Q b) = ap (Q2 b2) := by omega
  have bi : b ≤ i := by
    by_cases q : i < b
    · have : sp (Q i) < sp (Q b) := x3 i q
      omega
    · omega
  have bj : b2 ≤ j := by
    by_cases q : j < b2
    · have : ap (Q2 j) < ap (Q2 b2) := y3 j q
      omega
    · omega
  have l1 := e_lev h i b bi i1
  have l2 := e_lev h2 j b2 bj j1
  exact ⟨es, by omega⟩
theorem ok_apart {N : Nat} {uc um : zS} (hN : 1000 ≤ N) (h : RR uc um) (a0 a1' a2 : Int32) : op_apart N RR uc um a0 a1' a2 := by
  unfold op_apart f_X5_apart f_X6_apart
  obtain ⟨nA, nF, nT, nB, kn, sl, hW, hc⟩ := h.1
  have a1 := hW.1.1
  have b1 := hW.2.1.1
  have d1 := hc.1.1
  rw [isAngel_eq a1 (d1.trans a1) (by omega), isAngel_eq a1 (d1.trans a1) (by omega), show f_X6_in a2.toInt64 0 1 = f_X5_within a2 0 1 from in_within a2 0 1]
  rcases hasA (d1.trans a1) (by omega) a0 with h0 | ⟨i, hi, rfl, h1⟩
  · rw [if_pos h0, if_pos h0]; exact ⟨_, _, _, rfl, rfl, h⟩
  have h1n : ¬ f_X1_hasAngel 1 uc (nI i) = 0 := by rw [h1]; decide
  rw [if_neg h1n, if_neg h1n]
  rcases hasA (d1.trans a1) (by omega) a1' with h0 | ⟨j, hj, rfl, h1⟩
  · rw [if_pos h0, if_pos h0]; exact ⟨_, _, _, rfl, rfl, h⟩
  have h1n : ¬ f_X1_hasAngel 1 uc (nI j) = 0 := by rw [h1]; decide
  rw [if_neg h1n, if_neg h1n]
  by_cases hij : nI i = nI j
  · rw [if_pos hij, if_pos hij]; exact ⟨_, _, _, rfl, rfl, h⟩
  rw [if_neg hij, if_neg hij]
  by_cases hw : f_X5_within a2 0 1 = 0
  · rw [if_pos hw, if_pos hw]; exact ⟨_, _, _, rfl, rfl, h⟩
  rw [if_neg hw, if_neg hw]
  have ei : uc.1 2 i = um.1 1 (5 + i) := hc.2.1 i hi
  have ej : uc.1 2 j = um.1 1 (5 + j) := hc.2.1 j hj
  have e5i : (5 : Int32) + nI i = nI (5 + i) := nI_add 5 i
  have e5j : (5 : Int32) + nI j = nI (5 + j) := nI_add 5 j
  rw [e5i, e5j, nI_clamp (show i < 2 ^ 31 by omega), nI_clamp (show j < 2 ^ 31 by omega), nI_clamp (show 5 + i < 2 ^ 31 by omega), nI_clamp (show 5 + j < 2 ^ 31 by omega), ei, ej]
  rw [og_nI (i := i) (n := 8) (by omega) (by omega), og_nI (i := 5 + i) (n := 279) (by omega) (by omega)]
  rcases hW.2.2.2.1 i hi with hv | ⟨p, hp, hv⟩
  · rw [if_pos hv, if_pos hv]; exact ⟨_, _, _, rfl, rfl, h⟩
  have hv4 : ¬ um.1 1 (5 + i) = -4 := by rw [hv]; exact nI_n4 (by omega)
  rw [if_neg hv4, if_neg hv4, og_nI (i := j) (n := 8) (by omega) (by omega), og_nI (i := 5 + j) (n := 279) (by omega) (by omega)]
  rcases hW.2.2.2.1 j hj with hv2 | ⟨q, hq, hv2⟩
  · rw [if_pos hv2, if_pos hv2]; exact ⟨_, _, _, rfl, rfl, h⟩
  have hv24 : ¬ um.1 1 (5 + j) = -4 := by rw [hv2]; exact nI_n4 (by omega)
  rw [if_neg hv24, if_neg hv24, og_nI (i := i) (n := 8) (by omega) (by omega), og_nI (i := j) (n := 8) (by omega) (by omega), hv, hv2, (bit8 p hp).1, (bit8 q hq).1, fa_or]
  have h7 : uc.1 1 7 = nI nF := hc.1.2.1.trans hW.1.2.1
  have hc0 : 8 * p + q < 64 := by omega
  have epi : 2 ^ p ||| 2 ^ q = pi8 (8 * p + q) := by
    unfold pi8
    rw [show (8 * p + q) / 8 = p by omega, show (8 * p + q) % 8 = q by omega]
  obtain ⟨v, Q, par, lab, lev, R, z1, z2, z3⟩ := explore_eq (N := N) hN hW hc.t h7 (pi_lt hc0)
  have hR := b_le z2
  obtain ⟨b, w1, w2⟩ := widest_eq hN z2.1.1 hR z3
  rw [epi, z1, ob_s, w1, ob_s]
  -- the reference
  obtain ⟨u1, g1, g2, g3, g4⟩ := for_loop (L := f_X6_apart_L65 N (nI i) (nI j) a2) (n := 64) (fun k x => x.2 = um.2 ∧ (∀ c, c ≠ 10 → x.1 c = um.1 c) ∧ ∀ z, z < k → x.1 10 z = nI 1000000)
    (fun q x _ => by
      show f_X6_apart_L65_B N _ _ _ _ _ _ = _
      unfold f_X6_apart_L65_B
      rw [if_pos (show (64 : Int32) ≤ nI 64 by decide)])
    (fun q x k hk hI => by
      refine ⟨wI x 10 k (nI 1000000), ⟨hI.1, fun c hc => by rw [wI_ne hc]; exact hI.2.1 c hc, fun z hz => ?_⟩, ?_⟩
      · rw [wI_at]
        by_cases e : z = k
        · subst e; rw [pk_us]
        · rw [pk_un e]; exact hI.2.2 z (by omega)
      · show f_X6_apart_L65_B N _ _ _ _ _ _ = _
        unfold f_X6_apart_L65_B
        rw [if_neg (show ¬ (64 : Int32) ≤ nI k from nI_ge (a := k) (b := 64) (by omega) (by omega)), og_nI (by omega) (by omega), nI_clamp (by omega), ol, show nI k + 1 = nI (k + 1) from nI_1 k]
        rfl)
    64 0 N um (by omega) (by omega) ⟨rfl, fun _ _ => rfl, fun k hk => absurd hk (by omega)⟩
  rw [show f_X6_apart_L65 N (nI i) (nI j) a2 N um 0 = some u1 from g1, ob_s, og_nI (i := 5 + i) (n := 279) (by omega) (by omega), og_nI (i := 5 + j) (n := 279) (by omega) (by omega), g3 1 (by omega), hv, hv2, show (8 : Int32) * nI p = nI (8 * p) from pk_mul 8 p, nI_add, ol]
  have u80 : (wI u1 8 0 (nI (8 * p + q))).1 8 0 = nI (8 * p + q) := by rw [wI_at, pk_us]
  rw [u80, og_nI hc0 (by omega), nI_clamp (by omega), ol]
  have hz : xP um (wI (wI u1 8 0 (nI (8 * p + q))) 10 (8 * p + q) 0) (fun _ => 8 * p + q) (fun _ => 0) 1 := by
    refine ⟨g2, fun c c1 c2 => by rw [wI_ne c2, wI_ne c1]; exact g3 c c2, fun i hi => ?_, fun i hi => ?_, fun m hm hn => ?_⟩
    · have : i = 0 := by omega
      rw [this, wI_ne (by omega), wI_at, pk_us]
    · rw [wI_at, pk_us]; rfl
    · rw [wI_at, pk_un (fun q => hn 0 (by omega) q.symm), wI_ne (by omega)]; exact g4 m hm
  obtain ⟨w, Q2, par2, lab2, lev2, R2, b2, k1, k2, k3, k4⟩ := pairs_eq (N := N) hN hW hc0 hz a2
  obtain ⟨s1, s2⟩ := same_best hW hc0 z2 k2 w2 k4
  rw [k1, ob_s]
  have hfin : RR v w := RR_search h z3 k3.1 (fun c hc => k3.2.1 c (by omega) (by omega))
  have hbq := z2.2.2.2.2.2 b w2.1
  by_cases hz0 : a2 = 0
  · unfold f_X2_howFar
    rw [if_pos hz0, if_pos hz0, og_nI hbq (by omega), nI_clamp (by omega), z3.2.2.2.2.1 b w2.1, ob_s, s2]
    exact ⟨_, _, _, rfl, rfl, hfin⟩
  · rw [if_neg hz0, if_neg hz0, span_eq (by omega), ob_s, s1]
    exact ⟨_, _, _, rfl, rfl, hfin⟩
