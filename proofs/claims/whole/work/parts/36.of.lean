/-! greatest common measures; of -/
theorem gcd_loop {N : Nat} : ∀ (k a b t m : Nat), b < 2 ^ k → t + 2 * k ≤ 64 → 2 * k < m → a < 2 ^ 31 → k ≤ 31 → f_X5_greatestCommon_L7 N m (nI a) (nI b) (nI t) = some (nI (Nat.gcd a b)) := by
  intro k
  induction k with
  | zero =>
    intro a b t m h1 h2 h3 h4 h5
    obtain ⟨m, rfl⟩ : ∃ z, m = z + 1 := ⟨m - 1, by omega⟩
    have : b = 0 := by omega
    subst this
    show f_X5_greatestCommon_L7_B N _ _ _ _ = _
    unfold f_X5_greatestCommon_L7_B
    rw [Nat.gcd_zero_right]
    by_cases h : (64 : Int32) ≤ nI t
    · rw [if_pos h]
    · rw [if_neg h, if_pos (show nI 0 = (0 : Int32) by decide)]
  | succ k ih =>
    intro a b t m h1 h2 h3 h4 h5
    obtain ⟨m, rfl⟩ : ∃ z, m = z + 2 := ⟨m - 2, by omega⟩
    have h31 : (2 : Nat) ^ (k + 1) ≤ 2 ^ 31 := Nat.pow_le_pow_right (by omega) h5
    have hp : (2 : Nat) ^ (k + 1) = 2 * 2 ^ k := by rw [Nat.pow_succ]; omega
    show f_X5_greatestCommon_L7_B N _ _ _ _ = _
    unfold f_X5_greatestCommon_L7_B
    rw [if_neg (show ¬ (64 : Int32) ≤ nI t from nI_ge (a := t) (b := 64) (by omega) (by omega))]
    by_cases hb : b = 0
    · subst hb
      rw [if_pos (show nI 0 = (0 : Int32) by decide), Nat.gcd_zero_right]
    rw [if_neg (show ¬ nI b = (0 : Int32) from nI_ne0 (by omega) (by omega)), og_neN (by omega) (by omega), ol, pk_rem (by omega) (by omega) (by omega), show nI t + 1 = nI (t + 1) from nI_1 t]
    have hr := Nat.mod_lt a (show 0 < b by omega)
    rw [Nat.gcd_comm a b, Nat.gcd_rec b a]
    generalize a % b = r at hr
    show f_X5_greatestCommon_L7_B N _ _ _ _ = _
    unfold f_X5_greatestCommon_L7_B
    rw [if_neg (show ¬ (64 : Int32) ≤ nI (t + 1) from nI_ge (a := t + 1) (b := 64) (by omega) (by omega))]
    by_cases hr0 : r = 0
    · subst hr0
      rw [if_pos (show nI 0 = (0 : Int32) by decide), Nat.gcd_zero_left]
    rw [if_neg (show ¬ nI r = (0 : Int32) from nI_ne0 (by omega) (by omega)), og_neN (by omega) (by omega), ol, pk_rem (by omega) (by omega) (by omega), show nI (t + 1) + 1 = nI (t + 1 + 1) from nI_1 (t + 1)]
    have hh : 2 * (b % r) < b := by
      have l1 := Nat.mod_lt b (show 0 < r by omega)
      have l2 := Nat.div_add_mod b r
      have l3 : 1 ≤ b / r := (Nat.one_le_div_iff (by omega)).mpr (by omega)
      have l4 : r * 1 ≤ r * (b / r) := Nat.mul_le_mul_left r l3
      omega
    rw [ih r (b % r) (t + 1 + 1) m (by omega) (by omega) (by omega) (by omega) (by omega), Nat.gcd_comm r, ← Nat.gcd_rec]
theorem common_eq {N a b : Nat} (hN : 100 ≤ N) (ha : a < 2 ^ 31) (hb : b < 2 ^ 31) : f_X5_greatestCommon N (nI a) (nI b) = some (nI (Nat.gcd a b)) := by
  unfold f_X5_greatestCommon
  rw [show f_X5_greatestCommon_L7 N N (nI a) (nI b) 0 = _ from gcd_loop 31 a b 0 N hb (by omega) (by omega) ha (by omega)]
  rfl
theorem lcm_as (m n : Nat) : m / Nat.gcd m n * n = Nat.lcm m n := by
  rcases Nat.eq_zero_or_pos m with h0 | h0
  · subst h0; simp
  obtain ⟨c, hc⟩ := Nat.gcd_dvd_left m n
  have hg : 0 < Nat.gcd m n := Nat.gcd_pos_of_pos_left n h0
  unfold Nat.lcm
  have e1 : m / Nat.gcd m n = c := by
    conv => lhs; lhs; rw [hc]
    exact Nat.mul_div_cancel_left c hg
  have e2 : m * n / Nat.gcd m n = c * n := by
    conv => lhs; lhs; rw [hc, Nat.mul_assoc]
    exact Nat.mul_div_cancel_left (c * n) hg
  rw [e1, e2]
/-- one fold of the least common multiple, as the class does it -/
theorem fold_eq {N m t : Nat} {β : Type} (hN : 100 ≤ N) (hm : m ∣ 840) (ht : 1 ≤ t) (ht2 : t ≤ 8) (Z : Int32 → Option β) : Nat.lcm m t ∣ 840 ∧ (ob (f_X5_greatestCommon N (nI m) (nI t)) fun r3 => (if r3 ≤ 0 then Z (nI m) else (og (neB r3) <| (olet ((nI m / r3) * nI t) fun w6 => Z w6)))) = Z (nI (Nat.lcm m t)) := by
  have hm0 : 0 < m := Nat.pos_of_dvd_of_pos hm (by omega)
  have hm1 : m ≤ 840 := Nat.le_of_dvd (by omega) hm
  have ht3 : t ∣ 840 := by
    have : ∀ t, t < 9 → 1 ≤ t → t ∣ 840 := by decide
    exact this t (by omega) ht
  have hl : Nat.lcm m t ∣ 840 := Nat.lcm_dvd hm ht3
  have hg : 0 < Nat.gcd m t := Nat.gcd_pos_of_pos_left t hm0
  have hg2 : Nat.gcd m t ≤ m := Nat.le_of_dvd hm0 (Nat.gcd_dvd_left m t)
  refine ⟨hl, ?_⟩
  rw [common_eq hN (by omega) (by omega), ob_s, if_neg (show ¬ nI (Nat.gcd m t) ≤ 0 from nI_nle (by omega) (by omega)), og_neN (by omega) (by omega), ol, pk_div (by omega) (by omega) (by omega), pk_mul, lcm_as]
/-- where x is behind n turns of a figure -/
def tIt (k g : Int32) : Nat → Int32 → Int32
  | 0, x => x
  | n + 1, x => f_X6_leadsBy k g (tIt k g n x)
/-- turns till a place is back, from a turns on, at most n more -/
def tBk (k g v : Int32) : Nat → Nat → Int32 → Nat
  | 0, a, _ => a
  | n + 1, a, x => if x = v then a else tBk k g v n (a + 1) (f_X6_leadsBy k g x)
def tB (k g p : Nat) : Nat := tBk (nI k) (nI g) (nI p) 7 1 (f_X6_leadsBy (nI k) (nI g) (nI p))
def oF (k g : Nat) : Nat → Nat
  | 0 => 1
  | p + 1 => Nat.lcm (oF k g p) (tB k g p)
theorem tB_ok : ∀ k, k < 5 → ∀ g, g < 8 → ∀ p, p < 8 → 1 ≤ tB k g p ∧ tB k g p ≤ 8 := by decide +kernel
theorem oF_1 : ∀ k, k < 5 → ∀ g, g < 8 → 1 ≤ oF k g 8 ∧ oF k g 8 ≤ 8 := by decide +kernel
theorem oF_2 : ∀ k, k < 5 → ∀ g, g < 8 → ∀ p, p < 8 → tIt (nI k) (nI g) (oF k g 8) (nI p) = nI p := by decide +kernel
def oN (k g n : Nat) : Bool := (List.range 8).all fun p => decide (tIt (nI k) (nI g) n (nI p) = nI p)
theorem oF_3 : ∀ k, k < 5 → ∀ g, g < 8 → ∀ n, n < 8 → 1 ≤ n → n < oF k g 8 → oN k g n = false := by decide +kernel
theorem oF_ok (k : Nat) (hk : k < 5) (g : Nat) (hg : g < 8) : 1 ≤ oF k g 8 ∧ oF k g 8 ≤ 8 ∧ (∀ p, p < 8 → tIt (nI k) (nI g) (oF k g 8) (nI p) = nI p) ∧ ∀ n, n < 8 → 1 ≤ n → n < oF k g 8 → ¬ ∀ p, p < 8 → tIt (nI k) (nI g) n (nI p) = nI p :=
  ⟨(oF_1 k hk g hg).1, (oF_1 k hk g hg).2, oF_2 k hk g hg, fun n h1 h2 h3 h4 => absurd (oF_3 k hk g hg n h1 h2 h3) (by rw [show oN k g n = true from List.all_eq_true.mpr (fun p hp => decide_eq_true (h4 p (List.mem_range.mp hp)))]; decide)⟩
theorem turns_eq {N : Nat} {uc : zS} {W : Nat → Int32} {nF nT f p k g : Nat} (hN : 300 ≤ N) (hT : cT 1 uc W nF nT) (hf : f < nF) (hF : nF ≤ 5) (hp : p < 8) (hk : k < 5) (hg : g < 8) (ek : W (13 + f) = nI k) (eg : W (18 + f) = nI g) : f_X1_turnsTillBack N 1 uc (nI f) (nI p) = some (nI (tB k g p)) := by
  have key : ∀ (n a x m : Nat), a + n = 8 → n < m → x < 8 → f_X1_turnsTillBack_L10 N 1 uc (nI f) (nI p) m (nI a) (nI x) = some (nI (tBk (nI k) (nI g) (nI p) n a (nI x))) := by
    intro n
    induction n with
    | zero =>
      intro a x m h1 h2 h3
      obtain ⟨m, rfl⟩ : ∃ z, m = z + 1 := ⟨m - 1, by omega⟩
      have : a = 8 := by omega
      subst this
      show f_X1_turnsTillBack_L10_B N _ _ _ _ _ _ _ = _
      unfold f_X1_turnsTillBack_L10_B
      rw [if_pos (show (8 : Int32) ≤ nI 8 by decide)]; rfl
    | succ n ih =>
      intro a x m h1 h2 h3
      obtain ⟨m, rfl⟩ : ∃ z, m = z + 1 := ⟨m - 1, by omega⟩
      show f_X1_turnsTillBack_L10_B N _ _ _ _ _ _ _ = _
      unfold f_X1_turnsTillBack_L10_B
      rw [if_neg (show ¬ (8 : Int32) ≤ nI a from nI_ge (a := a) (b := 8) (by omega) (by omega))]
      show _ = some (nI (if nI x = nI p then a else tBk (nI k) (nI g) (nI p) n (a + 1) (f_X6_leadsBy (nI k) (nI g) (nI x))))
      by_cases hx : nI x = nI p
      · rw [if_pos hx, if_pos hx]
      · obtain ⟨y, hy, ey⟩ := leadsBy_lt k hk g hg x h3
        rw [if_neg hx, if_neg hx, ledBy_eq hT hf hF h3, ob_s, ek, eg, ey, show nI a + 1 = nI (a + 1) from nI_1 a]
        exact ih (a + 1) y m (by omega) (by omega) hy
  obtain ⟨y, hy, ey⟩ := leadsBy_lt k hk g hg p hp
  unfold f_X1_turnsTillBack
  rw [ledBy_eq hT hf hF hp, ob_s, ek, eg]
  unfold tB
  rw [ey, show f_X1_turnsTillBack_L10 N 1 uc (nI f) (nI p) N 1 (nI y) = _ from key 7 1 y N (by omega) (by omega) hy]
  rfl
theorem orderC_eq {N : Nat} {uc : zS} {W : Nat → Int32} {nF nT f k g : Nat} (hN : 300 ≤ N) (hT : cT 1 uc W nF nT) (hf : f < nF) (hF : nF ≤ 5) (hk : k < 5) (hg : g < 8) (ek : W (13 + f) = nI k) (eg : W (18 + f) = nI g) : f_X1_orderOf N 1 uc (nI f) = some (nI (oF k g 8)) := by
  have key : ∀ (n p m : Nat), p + n = 8 → n < m → oF k g p ∣ 840 → f_X1_orderOf_L4 N 1 uc (nI f) m (nI (oF k g p)) (nI p) = some (nI (oF k g 8)) := by
    intro n
    induction n with
    | zero =>
      intro p m h1 h2 h3
      obtain ⟨m, rfl⟩ : ∃ z, m = z + 1 := ⟨m - 1, by omega⟩
      have : p = 8 := by omega
      subst this
      show f_X1_orderOf_L4_B N _ _ _ _ _ _ = _
      unfold f_X1_orderOf_L4_B
      rw [if_pos (show (8 : Int32) ≤ nI 8 by decide)]
    | succ n ih =>
      intro p m h1 h2 h3
      obtain ⟨m, rfl⟩ : ∃ z, m = z + 1 := ⟨m - 1, by omega⟩
      show f_X1_orderOf_L4_B N _ _ _ _ _ _ = _
      unfold f_X1_orderOf_L4_B
      obtain ⟨t1, t2⟩ := tB_ok k hk g hg p (by omega)
      obtain ⟨f1, f2⟩ := fold_eq (N := N) (m := oF k g p) (t := tB k g p) (by omega) h3 t1 t2 (fun w => f_X1_orderOf_L4 N 1 uc (nI f) m w (nI (p + 1)))
      rw [if_neg (show ¬ (8 : Int32) ≤ nI p from nI_ge (a := p) (b := 8) (by omega) (by omega)), turns_eq hN hT hf hF (by omega) hk hg ek eg, ob_s, show nI p + 1 = nI (p + 1) from nI_1 p, f2]
      exact ih (p + 1) m (by omega) (by omega) f1
  unfold f_X1_orderOf
  rw [show f_X1_orderOf_L4 N 1 uc (nI f) N 1 0 = _ from key 8 0 N (by omega) (by omega) (Nat.one_dvd 840)]
  rfl
def s6 (um w : zS) : Prop := w.2 = um.2 ∧ ∀ c, c ≠ 6 → w.1 c = um.1 c
theorem orderM_eq {N : Nat} {um : zS} {f k g : Nat} (hN : 300 ≤ N) (hf : f < 5) (hk : k < 5) (hg : g < 8) (ek : um.1 1 (13 + f) = nI k) (eg : um.1 1 (18 + f) = nI g) : ∃ w, f_X6_orderOf N um (nI f) = some (nI (oF k g 8), w) ∧ s6 um w := by
  have k1 : ∀ (n j m : Nat) (u : zS), j + n = 8 → n < m → s6 um u → (∀ z, z < j → u.1 6 z = nI z) → ∃ w, f_X6_orderOf_L7 N (nI f) 0 0 m u (nI j) = some w ∧ s6 um w ∧ ∀ z, z < 8 → w.1 6 z = nI z := by
    intro n
    induction n with
    | zero =>
      intro j m u h1 h2 h3 h4
      obtain ⟨m, rfl⟩ : ∃ z, m = z + 1 := ⟨m - 1, by omega⟩
      have : j = 8 := by omega
      subst this
      refine ⟨u, ?_, h3, h4⟩
      show f_X6_orderOf_L7_B N _ _ _ _ _ _ = _
      unfold f_X6_orderOf_L7_B
      rw [if_pos (show (8 : Int32) ≤ nI 8 by decide)]
    | succ n ih =>
      intro j m u h1 h2 h3 h4
      obtain ⟨m, rfl⟩ : ∃ z, m = z + 1 := ⟨m - 1, by omega⟩
      show ∃ w, f_X6_orderOf_L7_B N _ _ _ _ _ _ = _ ∧ _
      unfold f_X6_orderOf_L7_B
      rw [if_neg (show ¬ (8 : Int32) ≤ nI j from nI_ge (a := j) (b := 8) (by omega) (by omega)), og_nI (by omega) (by omega), nI_clamp (by omega), ol, show nI j + 1 = nI (j + 1) from nI_1 j]
      refine ih (j + 1) m _ (by omega) (by omega) ⟨h3.1, fun c hc => by rw [wI_ne hc]; exact h3.2 c hc⟩ (fun z hz => ?_)
      rw [wI_at]
      by_cases hzj : z = j
      · subst hzj; rw [pk_us]
      · rw [pk_un hzj]; exact h4 z (by omega)
  -- one turn of all places
  have k2 : ∀ (v2 : Int32) (a : Nat) (n j m : Nat) (u : zS) (fl : Int32), j + n = 8 → n < m → s6 um u → (∀ z, z < 8 → u.1 6 z = tIt (nI k) (nI g) (if z < j then a + 1 else a) (nI z)) → ((fl = 1 ∧ ∀ z, z < j → tIt (nI k) (nI g) (a + 1) (nI z) = nI z) ∨ (fl = 0 ∧ ∃ z, z < j ∧ ¬ tIt (nI k) (nI g) (a + 1) (nI z) = nI z)) → ∃ w fl2, f_X6_orderOf_L41 N (nI f) v2 m u fl (nI j) = some (fl2, w) ∧ s6 um w ∧ (∀ z, z < 8 → w.1 6 z = tIt (nI k) (nI g) (a + 1) (nI z)) ∧ ((fl2 = 1 ∧ ∀ z, z < 8 → tIt (nI k) (nI g) (a + 1) (nI z) = nI z) ∨ (fl2 = 0 ∧ ∃ z, z < 8 ∧ ¬ tIt (nI k) (nI g) (a + 1) (nI z) = nI z)) := by
    intro v2 a n
    induction n with
    | zero =>
      intro j m u fl h1 h2 h3 h4 h5
      obtain ⟨m, rfl⟩ : ∃ z, m = z + 1 := ⟨m - 1, by omega⟩
      have : j = 8 := by omega
      subst this
      refine ⟨u, fl, ?_, h3, fun z hz => by rw [h4 z hz, if_pos hz], h5⟩
      show f_X6_orderOf_L41_B N _ _ _ _ _ _ = _
      unfold f_X6_orderOf_L41_B
      rw [if_pos (show (8 : Int32) ≤ nI 8 by decide)]
    | succ n ih =>
      intro j m u fl h1 h2 h3 h4 h5
      obtain ⟨m, rfl⟩ : ∃ z, m = z + 1 := ⟨m - 1, by omega⟩
      show ∃ w fl2, f_X6_orderOf_L41_B N _ _ _ _ _ _ = _ ∧ _
      unfold f_X6_orderOf_L41_B
      have h1c : ∀ z, u.1 1 z = um.1 1 z := fun z => by rw [h3.2 1 (by omega)]
      have hj : u.1 6 j = tIt (nI k) (nI g) a (nI j) := by rw [h4 j (by omega), if_neg (by omega)]
      rw [if_neg (show ¬ (8 : Int32) ≤ nI j from nI_ge (a := j) (b := 8) (by omega) (by omega)), og_nI (by omega) (by omega), nI_clamp (by omega), hj, leadsOf_eq hf, ob_s, h1c, h1c, ek, eg, show f_X6_leadsBy (nI k) (nI g) (tIt (nI k) (nI g) a (nI j)) = tIt (nI k) (nI g) (a + 1) (nI j) from rfl, og_nI (by omega) (by omega), ol, og_nI (by omega) (by omega), show nI j + 1 = nI (j + 1) from nI_1 j]
      have e6 : (wI u 6 j (tIt (nI k) (nI g) (a + 1) (nI j))).1 6 j = tIt (nI k) (nI g) (a + 1) (nI j) := by rw [wI_at, pk_us]
      have n4 : ∀ z, z < 8 → (wI u 6 j (tIt (nI k) (nI g) (a + 1) (nI j))).1 6 z = tIt (nI k) (nI g) (if z < j + 1 then a + 1 else a) (nI z) := fun z hz => by
        rw [wI_at]
        by_cases hzj : z = j
        · subst hzj; rw [pk_us, if_pos (by omega)]
        · rw [pk_un hzj, h4 z hz]
          by_cases hz2 : z < j
          · rw [if_pos hz2, if_pos (by omega)]
          · rw [if_neg hz2, if_neg (by omega)]
      have n3 : s6 um (wI u 6 j (tIt (nI k) (nI g) (a + 1) (nI j))) := ⟨h3.1, fun c hc => by rw [wI_ne hc]; exact h3.2 c hc⟩
      rw [e6]
      rcases h5 with ⟨h5, h6⟩ | ⟨h5, z0, hz0, h6⟩
      · rw [if_neg (show ¬ fl = 0 by rw [h5]; decide)]
        by_cases hi : tIt (nI k) (nI g) (a + 1) (nI j) = nI j
        · rw [if_pos hi]
          refine ih (j + 1) m _ 1 (by omega) (by omega) n3 n4 (Or.inl ⟨rfl, fun z hz => ?_⟩)
          by_cases hzj : z = j
          · subst hzj; exact hi
          · exact h6 z (by omega)
        · rw [if_neg hi]
          exact ih (j + 1) m _ 0 (by omega) (by omega) n3 n4 (Or.inr ⟨rfl, j, by omega, hi⟩)
      · rw [if_pos h5]
        exact ih (j + 1) m _ 0 (by omega) (by omega) n3 n4 (Or.inr ⟨rfl, z0, by omega, h6⟩)
  obtain ⟨o1, o2, o3, o4⟩ := oF_ok k hk g hg
  have k3 : ∀ (n a m : Nat) (u : zS), a + n = oF k g 8 → n + 1 < m → s6 um u → (∀ z, z < 8 → u.1 6 z = tIt (nI k) (nI g) a (nI z)) → ∃ w, f_X6_orderOf_L29 N (nI f) m u (nI a) (if n = 0 then 1 else 0) = some (nI (oF k g 8), w) ∧ s6 um w := by
    intro n
    induction n with
    | zero =>
      intro a m u h1 h2 h3 h4
      obtain ⟨m, rfl⟩ : ∃ z, m = z + 1 := ⟨m - 1, by omega⟩
      have : a = oF k g 8 := by omega
      rw [this]
      refine ⟨u, ?_, h3⟩
      show f_X6_orderOf_L29_B N _ _ _ _ _ = _
      unfold f_X6_orderOf_L29_B
      rw [if_pos rfl, if_neg (show ¬ (1 : Int32) = 0 by decide)]
    | succ n ih =>
      intro a m u h1 h2 h3 h4
      obtain ⟨m, rfl⟩ : ∃ z, m = z + 1 := ⟨m - 1, by omega⟩
      show ∃ w, f_X6_orderOf_L29_B N _ _ _ _ _ = _ ∧ _
      unfold f_X6_orderOf_L29_B
      rw [if_neg (show ¬ n + 1 = 0 by omega), if_pos rfl]
      obtain ⟨w, fl2, g1, g2, g3, g4⟩ := k2 (nI a + 1) a 8 0 N u 1 (by omega) (by omega) h3 (fun z hz => by rw [h4 z hz, if_neg (by omega)]) (Or.inl ⟨rfl, fun z hz => absurd hz (by omega)⟩)
      rw [show f_X6_orderOf_L41 N (nI f) (nI a + 1) N u 1 0 = _ from g1, ob_s]
      have nx := ih (a + 1) m w (by omega) (by omega) g2 g3
      have hfl : fl2 = if n = 0 then 1 else 0 := by
        by_cases hn : n = 0
        · rw [if_pos hn]
          rcases g4 with ⟨g4, _⟩ | ⟨_, z, hz, g5⟩
          · exact g4
          · exfalso
            have := o3 z hz
            rw [← h1, hn] at this
            exact g5 this
        · rw [if_neg hn]
          rcases g4 with ⟨_, g5⟩ | ⟨g4, _⟩
          · exfalso
            exact o4 (a + 1) (by omega) (by omega) (by omega) g5
          · exact g4
      rw [hfl, show nI a + 1 = nI (a + 1) from nI_1 a]
      exact nx
  unfold f_X6_orderOf
  obtain ⟨w, g1, g2, g3⟩ := k1 8 0 N um (by omega) (by omega) ⟨rfl, fun _ _ => rfl⟩ (fun z hz => absurd hz (by omega))
  obtain ⟨w2, g4, g5⟩ := k3 (oF k g 8) 0 N w (by omega) (by omega) g2 g3
  rw [if_neg (by omega)] at g4
  rw [show f_X6_orderOf_L7 N (nI f) 0 0 N um 0 = some w from g1, ob_s, show f_X6_orderOf_L29 N (nI f) N w 0 0 = _ from g4, ob_s]
  exact ⟨w2, rfl, g5⟩
theorem kept_eq {N : Nat} {uc um : zS} {nF nT f : Nat} (hN : 300 ≤ N) (hT : cT 1 uc (um.1 1) nF nT) (hf : f < nF) (hF : nF ≤ 5) : ∃ r, f_X1_keptBy N 1 uc (nI f) = some r ∧ f_X6_keptBy N um (nI f) = some r := by
  have bt : ∀ p, p < 8 → f_X5_bitOf (nI p) = (1 : Int32) <<< (nI p &&& (31 : Int32)) := by decide
  have key : ∀ (n p m m2 : Nat) (a : Int32), p + n = 8 → n < m → n < m2 → ∃ r, f_X1_keptBy_L4 N 1 uc (nI f) m a (nI p) = some r ∧ f_X6_keptBy_L4 N um (nI f) m2 a (nI p) = some r := by
    intro n
    induction n with
    | zero =>
      intro p m m2 a h1 h2 h3
      obtain ⟨m, rfl⟩ : ∃ z, m = z + 1 := ⟨m - 1, by omega⟩
      obtain ⟨m2, rfl⟩ : ∃ z, m2 = z + 1 := ⟨m2 - 1, by omega⟩
      have : p = 8 := by omega
      subst this
      refine ⟨a, ?_, ?_⟩
      · show f_X1_keptBy_L4_B N _ _ _ _ _ _ = _
        unfold f_X1_keptBy_L4_B
        rw [if_pos (show (8 : Int32) ≤ nI 8 by decide)]
      · show f_X6_keptBy_L4_B N _ _ _ _ _ = _
        unfold f_X6_keptBy_L4_B
        rw [if_pos (show (8 : Int32) ≤ nI 8 by decide)]
    | succ n ih =>
      intro p m m2 a h1 h2 h3
      obtain ⟨m, rfl⟩ : ∃ z, m = z + 1 := ⟨m - 1, by omega⟩
      obtain ⟨m2, rfl⟩ : ∃ z, m2 = z + 1 := ⟨m2 - 1, by omega⟩
      show ∃ r, f_X1_keptBy_L4_B N _ _ _ _ _ _ = _ ∧ f_X6_keptBy_L4_B N _ _ _ _ _ = _
      unfold f_X1_keptBy_L4_B f_X6_keptBy_L4_B
      rw [if_neg (show ¬ (8 : Int32) ≤ nI p from nI_ge (a := p) (b := 8) (by omega) (by omega)), if_neg (show ¬ (8 : Int32) ≤ nI p from nI_ge (a := p) (b := 8) (by omega) (by omega)), ledBy_eq hT hf hF (by omega), leadsOf_eq (by omega), ob_s, ob_s, ol, ol, or_0, bt p (by omega), show nI p + 1 = nI (p + 1) from nI_1 p]
      by_cases hi : f_X6_leadsBy (um.1 1 (13 + f)) (um.1 1 (18 + f)) (nI p) = nI p
      · rw [if_pos hi, if_pos hi]; exact ih (p + 1) m m2 _ (by omega) (by omega) (by omega)
      · rw [if_neg hi, if_neg hi]; exact ih (p + 1) m m2 _ (by omega) (by omega) (by omega)
  obtain ⟨r, g1, g2⟩ := key 8 0 N N 0 (by omega) (by omega) (by omega)
  unfold f_X1_keptBy f_X6_keptBy
  rw [show f_X1_keptBy_L4 N 1 uc (nI f) N 0 0 = some r from g1, show f_X6_keptBy_L4 N um (nI f) N 0 0 = some r from g2]
  exact ⟨r, rfl, rfl⟩
theorem alike_eq {N : Nat} {uc um : zS} {nF nT f e : Nat} (hN : 300 ≤ N) (hT : cT 1 uc (um.1 1) nF nT) (hf : f < nF) (he : e < nF) (hF : nF ≤ 5) : ∃ r, f_X1_leadAlike N 1 uc (nI e) (nI f) = some r ∧ f_X6_areAlike N um (nI f) (nI e) = some r ∧ (e = f → ¬ r = 0) := by
  have z0 : ∀ (n p m : Nat), p + n = 8 → n < m → f_X6_areAlike_L5 N um (nI f) (nI e) m 0 (nI p) = some 0 := by
    intro n
    induction n with
    | zero =>
      intro p m h1 h2
      obtain ⟨m, rfl⟩ : ∃ z, m = z + 1 := ⟨m - 1, by omega⟩
      have : p = 8 := by omega
      subst this
      show f_X6_areAlike_L5_B N _ _ _ _ _ _ = _
      unfold f_X6_areAlike_L5_B
      rw [if_pos (show (8 : Int32) ≤ nI 8 by decide)]
    | succ n ih =>
      intro p m h1 h2
      obtain ⟨m, rfl⟩ : ∃ z, m = z + 1 := ⟨m - 1, by omega⟩
      show f_X6_areAlike_L5_B N _ _ _ _ _ _ = _
      unfold f_X6_areAlike_L5_B
      rw [if_neg (show ¬ (8 : Int32) ≤ nI p from nI_ge (a := p) (b := 8) (by omega) (by omega)), if_pos rfl, show nI p + 1 = nI (p + 1) from nI_1 p]
      exact ih (p + 1) m (by omega) (by omega)
  have key : ∀ (n p m m2 : Nat), p + n = 8 → n < m → n < m2 → (f_X1_leadAlike_L2 N 1 uc (nI e) (nI f) m (nI p) = some (.inr ()) ∧ f_X6_areAlike_L5 N um (nI f) (nI e) m2 1 (nI p) = some 1) ∨ (¬ e = f ∧ f_X1_leadAlike_L2 N 1 uc (nI e) (nI f) m (nI p) = some (.inl 0) ∧ f_X6_areAlike_L5 N um (nI f) (nI e) m2 1 (nI p) = some 0) := by
    intro n
    induction n with
    | zero =>
      intro p m m2 h1 h2 h3
      obtain ⟨m, rfl⟩ : ∃ z, m = z + 1 := ⟨m - 1, by omega⟩
      obtain ⟨m2, rfl⟩ : ∃ z, m2 = z + 1 := ⟨m2 - 1, by omega⟩
      have : p = 8 := by omega
      subst this
      left
      constructor
      · show f_X1_leadAlike_L2_B N _ _ _ _ _ _ = _
        unfold f_X1_leadAlike_L2_B
        rw [if_pos (show (8 : Int32) ≤ nI 8 by decide)]
      · show f_X6_areAlike_L5_B N _ _ _ _ _ _ = _
        unfold f_X6_areAlike_L5_B
        rw [if_pos (show (8 : Int32) ≤ nI 8 by decide)]
    | succ n ih =>
      intro p m m2 h1 h2 h3
      obtain ⟨m, rfl⟩ : ∃ z, m = z + 1 := ⟨m - 1, by omega⟩
      obtain ⟨m2, rfl⟩ : ∃ z, m2 = z + 1 := ⟨m2 - 1, by omega⟩
      have nx := ih (p + 1) m m2 (by omega) (by omega) (by omega)
      have n8 : ¬ (8 : Int32) ≤ nI p := nI_ge (a := p) (b := 8) (by omega) (by omega)
      have eC : f_X1_leadAlike_L2 N 1 uc (nI e) (nI f) (m + 1) (nI p) = if f_X6_leadsBy (um.1 1 (13 + e)) (um.1 1 (18 + e)) (nI p) = f_X6_leadsBy (um.1 1 (13 + f)) (um.1 1 (18 + f)) (nI p) then f_X1_leadAlike_L2 N 1 uc (nI e) (nI f) m (nI (p + 1)) else some (.inl 0) := by
        show f_X1_leadAlike_L2_B N _ _ _ _ _ _ = _
        unfold f_X1_leadAlike_L2_B
        rw [if_neg n8, ledBy_eq hT he hF (by omega), ledBy_eq hT hf hF (by omega), ob_s, ob_s, show nI p + 1 = nI (p + 1) from nI_1 p]
      have eM : f_X6_areAlike_L5 N um (nI f) (nI e) (m2 + 1) 1 (nI p) = if f_X6_leadsBy (um.1 1 (13 + f)) (um.1 1 (18 + f)) (nI p) = f_X6_leadsBy (um.1 1 (13 + e)) (um.1 1 (18 + e)) (nI p) then f_X6_areAlike_L5 N um (nI f) (nI e) m2 1 (nI (p + 1)) else f_X6_areAlike_L5 N um (nI f) (nI e) m2 0 (nI (p + 1)) := by
        show f_X6_areAlike_L5_B N _ _ _ _ _ _ = _
        unfold f_X6_areAlike_L5_B
        rw [if_neg n8, if_neg (show ¬ (1 : Int32) = 0 by decide), leadsOf_eq (by omega), leadsOf_eq (by omega), ob_s, ob_s, show nI p + 1 = nI (p + 1) from nI_1 p]
      rw [eC, eM]
      by_cases hi : f_X6_leadsBy (um.1 1 (13 + e)) (um.1 1 (18 + e)) (nI p) = f_X6_leadsBy (um.1 1 (13 + f)) (um.1 1 (18 + f)) (nI p)
      · rw [if_pos hi, if_pos hi.symm]; exact nx
      · right
        rw [if_neg hi, if_neg (fun z => hi z.symm)]
        exact ⟨fun z => hi (by rw [z]), rfl, z0 n (p + 1) m2 (by omega) (by omega)⟩
  unfold f_X1_leadAlike f_X6_areAlike
  rcases key 8 0 N N (by omega) (by omega) (by omega) with ⟨g1, g2⟩ | ⟨g0, g1, g2⟩
  · rw [show f_X1_leadAlike_L2 N 1 uc (nI e) (nI f) N 0 = _ from g1, show f_X6_areAlike_L5 N um (nI f) (nI e) N 1 0 = _ from g2]
    exact ⟨1, rfl, rfl, fun _ => by decide⟩
  · rw [show f_X1_leadAlike_L2 N 1 uc (nI e) (nI f) N 0 = _ from g1, show f_X6_areAlike_L5 N um (nI f) (nI e) N 1 0 = _ from g2]
    exact ⟨0, rfl, rfl, fun z => absurd z g0⟩
theorem least_eq {N : Nat} {uc um : zS} {nF nT f : Nat} (hN : 300 ≤ N) (hT : cT 1 uc (um.1 1) nF nT) (hf : f < nF) (hF : nF ≤ 5) : ∃ r, f_X1_leastLike N 1 uc (nI f) = some r ∧ f_X6_sameAs N um (nI f) = some r := by
  have key : ∀ (n t m m2 : Nat), t + n = f → n < m → n < m2 → (f_X1_leastLike_L2 N 1 uc (nI f) m (nI t) = some (.inr ()) ∧ f_X6_sameAs_L2 N um (nI f) m2 (nI t) = some (nI f)) ∨ ∃ r, f_X1_leastLike_L2 N 1 uc (nI f) m (nI t) = some (.inl r) ∧ f_X6_sameAs_L2 N um (nI f) m2 (nI t) = some r := by
    intro n
    induction n with
    | zero =>
      intro t m m2 h1 h2 h3
      obtain ⟨m, rfl⟩ : ∃ z, m = z + 1 := ⟨m - 1, by omega⟩
      obtain ⟨m2, rfl⟩ : ∃ z, m2 = z + 1 := ⟨m2 - 1, by omega⟩
      have : t = f := by omega
      subst this
      left
      obtain ⟨r, g1, g2, g3⟩ := alike_eq (N := N) hN hT hf hf hF
      constructor
      · show f_X1_leastLike_L2_B N _ _ _ _ _ = _
        unfold f_X1_leastLike_L2_B
        rw [if_pos (nI_le (Nat.le_refl _) (by omega))]
      · show f_X6_sameAs_L2_B N _ _ _ _ = _
        unfold f_X6_sameAs_L2_B
        rw [g2, ob_s, if_neg (g3 rfl)]
    | succ n ih =>
      intro t m m2 h1 h2 h3
      obtain ⟨m, rfl⟩ : ∃ z, m = z + 1 := ⟨m - 1, by omega⟩
      obtain ⟨m2, rfl⟩ : ∃ z, m2 = z + 1 := ⟨m2 - 1, by omega⟩
      have nx := ih (t + 1) m m2 (by omega) (by omega) (by omega)
      obtain ⟨r, g1, g2, g3⟩ := alike_eq (N := N) (f := f) (e := t) hN hT hf (by omega) hF
      have eC : f_X1_leastLike_L2 N 1 uc (nI f) (m + 1) (nI t) = if r = 0 then f_X1_leastLike_L2 N 1 uc (nI f) m (nI (t + 1)) else some (.inl (nI t)) := by
        show f_X1_leastLike_L2_B N _ _ _ _ _ = _
        unfold f_X1_leastLike_L2_B
        rw [if_neg (nI_ge (by omega) (by omega)), g1, ob_s, show nI t + 1 = nI (t + 1) from nI_1 t]
      have eM : f_X6_sameAs_L2 N um (nI f) (m2 + 1) (nI t) = if r = 0 then f_X6_sameAs_L2 N um (nI f) m2 (nI (t + 1)) else some (nI t) := by
        show f_X6_sameAs_L2_B N _ _ _ _ = _
        unfold f_X6_sameAs_L2_B
        rw [g2, ob_s, show nI t + 1 = nI (t + 1) from nI_1 t]
      rw [eC, eM]
      by_cases hr : r = 0
      · rw [if_pos hr, if_pos hr]; exact nx
      · rw [if_neg hr, if_neg hr]; exact Or.inr ⟨_, rfl, rfl⟩
  unfold f_X1_leastLike f_X6_sameAs
  rcases key f 0 N N (by omega) (by omega) (by omega) with ⟨g1, g2⟩ | ⟨r, g1, g2⟩
  · rw [show f_X1_leastLike_L2 N 1 uc (nI f) N 0 = _ from g1, show f_X6_sameAs_L2 N um (nI f) N 0 = _ from g2]
    exact ⟨_, rfl, rfl⟩
  · rw [show f_X1_leastLike_L2 N 1 uc (nI f) N 0 = _ from g1, show f_X6_sameAs_L2 N um (nI f) N 0 = _ from g2]
    exact ⟨_, rfl, rfl⟩
theorem RR_s6 {uc um w : zS} (h : RR uc um) (hw : s6 um w) : RR uc w := RR_now h (rgR_same h.1 (fun _ _ _ => rfl) (fun k _ => by rw [hw.2 1 (by omega)])) FC.rfl' ⟨by rw [hw.2 0 (by omega)], by rw [hw.2 0 (by omega)], hw.2 2 (by omega), hw.2 4 (by omega), hw.2 5 (by omega), by rw [hw.1], fun k _ _ => by rw [hw.2 1 (by omega)]⟩
theorem ok_of {N : Nat} {uc um : zS} (hN : 300 ≤ N) (h : RR uc um) (a0 a1' : Int32) : op_of N RR uc um a0 a1' := by
  unfold op_of f_X5_of f_X6_of
  obtain ⟨nA, nF, nT, nB, kn, sl, hW, hc⟩ := h.1
  have a2 := hW.1.2.1
  have b2 := hW.2.1.2.1
  have d2 := hc.1.2.1
  rw [isFigure_eq a2 (d2.trans a2) (by omega)]
  rcases hasF (d2.trans a2) (by omega) a0 with h0 | ⟨f, hf, rfl, h1⟩
  · rw [if_pos h0, if_pos h0]; exact ⟨_, _, rfl, rfl, h⟩
  have h1n : ¬ f_X1_hasFigure 1 uc (nI f) = 0 := by rw [h1]; decide
  rw [if_neg h1n, if_neg h1n]
  obtain ⟨⟨k, hk, ek⟩, g, hg, eg⟩ := hW.2.2.2.2.1 f hf
  have ck : uc.1 3 f = nI k := (hc.2.2.1 f hf).1.trans ek
  have cg : uc.1 4 f = nI g := (hc.2.2.1 f hf).2.1.trans eg
  by_cases z0 : a1' = 0
  · rw [if_pos z0, if_pos z0, og_nI (by omega) (by omega), nI_clamp (by omega), show (13 : Int32) + nI f = nI (13 + f) from nI_add 13 f, og_nI (by omega) (by omega), nI_clamp (by omega), ck, ek]
    exact ⟨_, _, rfl, rfl, h⟩
  rw [if_neg z0, if_neg z0]
  by_cases z1 : a1' = 1
  · rw [if_pos z1, if_pos z1, og_nI (by omega) (by omega), nI_clamp (by omega), show (18 : Int32) + nI f = nI (18 + f) from nI_add 18 f, og_nI (by omega) (by omega), nI_clamp (by omega), cg, eg]
    exact ⟨_, _, rfl, rfl, h⟩
  rw [if_neg z1, if_neg z1]
  by_cases z2 : a1' = 2
  · obtain ⟨w, g1, g2⟩ := orderM_eq (N := N) (um := um) (f := f) hN (by omega) hk hg ek eg
    rw [if_pos z2, if_pos z2, orderC_eq hN hc.t hf b2 hk hg ek eg, g1, ob_s, ob_s]
    exact ⟨_, _, rfl, rfl, RR_s6 h g2⟩
  rw [if_neg z2, if_neg z2]
  by_cases z3 : a1' = 3
  · obtain ⟨r, g1, g2⟩ := kept_eq (N := N) hN hc.t hf b2
    rw [if_pos z3, if_pos z3, g1, g2, ob_s, ob_s]
    exact ⟨_, _, rfl, rfl, h⟩
  rw [if_neg z3, if_neg z3]
  by_cases z4 : a1' = 4
  · obtain ⟨r, g1, g2⟩ := least_eq (N := N) hN hc.t hf b2
    rw [if_pos z4, if_pos z4, g1, g2, ob_s, ob_s]
    exact ⟨_, _, rfl, rfl, h⟩
  rw [if_neg z4, if_neg z4]
  exact ⟨_, _, rfl, rfl, h⟩
