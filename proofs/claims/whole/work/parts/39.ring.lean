/-! ring: two readers of one tape -/
theorem wI_self (u : zS) (c i : Nat) : wI u c i (u.1 c i) = u := by
  refine Prod.ext ?_ rfl
  funext a j
  rw [wI_1]
  by_cases h : a = c
  · by_cases h2 : j = i
    · rw [if_pos h, if_pos h2, h, h2]
    · rw [if_pos h, if_neg h2]
  · rw [if_neg h]
theorem wI_wI (u : zS) (c i : Nat) (x y : Int32) : wI (wI u c i x) c i y = wI u c i y := by
  refine Prod.ext ?_ rfl
  funext a j
  rw [wI_1, wI_1, wI_1]
  by_cases h : a = c
  · by_cases h2 : j = i
    · rw [if_pos h, if_pos h2, if_pos h, if_pos h2]
    · rw [if_pos h, if_neg h2, if_pos h, if_neg h2, if_pos h, if_neg h2]
  · rw [if_neg h, if_neg h, if_neg h]
/-- behind the blanks -/
def sk (T : Nat → Int32) : Nat → Nat → Nat
  | 0, s => s
  | k + 1, s => if T s = 32 then sk T k (s + 1) else s
theorem sk_ok (T : Nat → Int32) : ∀ k s, s ≤ sk T k s ∧ sk T k s ≤ s + k ∧ (sk T k s < s + k → ¬ T (sk T k s) = 32)
  | 0, s => ⟨Nat.le_refl _, Nat.le_refl _, fun h => absurd h (Nat.lt_irrefl _)⟩
  | k + 1, s => by
    simp only [sk]
    by_cases h : T s = 32
    · rw [if_pos h]
      obtain ⟨h1, h2, h3⟩ := sk_ok T k (s + 1)
      exact ⟨by omega, by omega, fun q => h3 (by omega)⟩
    · rw [if_neg h]
      exact ⟨Nat.le_refl _, by omega, fun _ => h⟩
def s2 (T : Nat → Int32) (n s : Nat) : Nat := sk T (n - s) s
def xs (T : Nat → Int32) (n s : Nat) : Int32 := if s2 T n s = n then 0 else T (s2 T n s)
theorem s2_ok {T : Nat → Int32} {n s : Nat} (h : s ≤ n) : s ≤ s2 T n s ∧ s2 T n s ≤ n ∧ s2 T n (s2 T n s) = s2 T n s ∧ xs T n (s2 T n s) = xs T n s ∧ (¬ xs T n s = 0 → s2 T n s < n) := by
  obtain ⟨h1, h2, h3⟩ := sk_ok T (n - s) s
  have e : s2 T n (s2 T n s) = s2 T n s := by
    by_cases q : s2 T n s = n
    · rw [q]; unfold s2; rw [Nat.sub_self]; rfl
    · have q2 : s2 T n s < n := by unfold s2 at *; omega
      have q3 : ¬ T (s2 T n s) = 32 := by unfold s2 at *; exact h3 (by omega)
      generalize s2 T n s = z at *
      unfold s2
      obtain ⟨k, hk⟩ : ∃ k, n - z = k + 1 := ⟨n - z - 1, by omega⟩
      rw [hk]
      simp only [sk]
      rw [if_neg q3]
  refine ⟨h1, by unfold s2; omega, e, by unfold xs; rw [e], fun q => ?_⟩
  by_cases g : s2 T n s = n
  · exact absurd (show xs T n s = 0 by unfold xs; rw [if_pos g]) q
  · unfold s2 at *; omega
theorem next_eq {N : Nat} {u : zS} {T : Nat → Int32} {n s : Nat} (hN : 100 ≤ N) (h1 : u.1 31 1 = nI n) (h2 : u.1 31 2 = nI s) (hT : ∀ i, i < n → u.1 32 i = T i) (hs : s ≤ n) (hn : n ≤ 60) : f_X4_next N u = some (xs T n s, wI u 31 2 (nI (s2 T n s))) := by
  have key : ∀ (k s q : Nat) (u : zS), s + k = n → k < q → u.1 31 1 = nI n → u.1 31 2 = nI s → (∀ i, i < n → u.1 32 i = T i) → f_X4_next_L0 N q u = some (wI u 31 2 (nI (sk T k s))) := by
    intro k
    induction k with
    | zero =>
      intro s q u w1 w2 h1 h2 hT
      obtain ⟨q, rfl⟩ : ∃ z, q = z + 1 := ⟨q - 1, by omega⟩
      show f_X4_next_L0_B N _ _ = _
      unfold f_X4_next_L0_B
      rw [h1, h2, if_pos (nI_le (by omega) (by omega)), show nI (sk T 0 s) = u.1 31 2 from h2.symm, wI_self]
    | succ k ih =>
      intro s q u w1 w2 h1 h2 hT
      obtain ⟨q, rfl⟩ : ∃ z, q = z + 1 := ⟨q - 1, by omega⟩
      show f_X4_next_L0_B N _ _ = _
      unfold f_X4_next_L0_B
      rw [h1, h2, if_neg (nI_ge (by omega) (by omega)), og_nI (by omega) (by omega), nI_clamp (by omega), hT s (by omega), ol, show nI s + 1 = nI (s + 1) from nI_1 s]
      simp only [sk]
      by_cases h : T s = 32
      · rw [if_pos h, if_pos h, ih (s + 1) q _ (by omega) (by omega) (by rw [wI_at, pk_un (by omega)]; exact h1) (by rw [wI_at, pk_us]) (fun i hi => by rw [wI_ne (by omega)]; exact hT i hi), wI_wI]
      · rw [if_neg h, if_neg h, ← h2, wI_self]
  obtain ⟨g1, g2, -, -, -⟩ := s2_ok (T := T) hs
  unfold f_X4_next
  rw [key (n - s) s N u (by omega) (by omega) h1 h2 hT, ob_s, show sk T (n - s) s = s2 T n s from rfl, wI_at, pk_un (by omega), pk_us, h1]
  unfold xs
  by_cases g : s2 T n s = n
  · rw [if_pos (nI_le (by omega) (by omega)), if_pos g]
  · rw [if_neg (nI_ge (by omega) (by omega)), if_neg g, og_nI (by omega) (by omega), nI_clamp (by omega), wI_ne (by omega), hT _ (by omega)]
theorem peek_eq {N : Nat} {u : zS} {T : Nat → Int32} {n s : Nat} (hN : 100 ≤ N) (h1 : u.1 0 3 = nI n) (h2 : u.1 0 8 = nI s) (hT : ∀ i, i < n → u.1 2 i = T i) (hs : s ≤ n) (hn : n ≤ 60) : f_X6_peek N u = some (xs T n s, wI u 0 8 (nI (s2 T n s))) := by
  have key : ∀ (k s q : Nat) (u : zS), s + k = n → k < q → u.1 0 3 = nI n → u.1 0 8 = nI s → (∀ i, i < n → u.1 2 i = T i) → f_X6_peek_L0 N q u = some (wI u 0 8 (nI (sk T k s))) := by
    intro k
    induction k with
    | zero =>
      intro s q u w1 w2 h1 h2 hT
      obtain ⟨q, rfl⟩ : ∃ z, q = z + 1 := ⟨q - 1, by omega⟩
      show f_X6_peek_L0_B N _ _ = _
      unfold f_X6_peek_L0_B
      rw [h1, h2, if_pos (nI_le (by omega) (by omega)), show nI (sk T 0 s) = u.1 0 8 from h2.symm, wI_self]
    | succ k ih =>
      intro s q u w1 w2 h1 h2 hT
      obtain ⟨q, rfl⟩ : ∃ z, q = z + 1 := ⟨q - 1, by omega⟩
      show f_X6_peek_L0_B N _ _ = _
      unfold f_X6_peek_L0_B
      rw [h1, h2, if_neg (nI_ge (by omega) (by omega)), og_nI (by omega) (by omega), nI_clamp (by omega), hT s (by omega), ol, show nI s + 1 = nI (s + 1) from nI_1 s]
      simp only [sk]
      by_cases h : T s = 32
      · rw [if_pos h, if_pos h, ih (s + 1) q _ (by omega) (by omega) (by rw [wI_at, pk_un (by omega)]; exact h1) (by rw [wI_at, pk_us]) (fun i hi => by rw [wI_ne (by omega)]; exact hT i hi), wI_wI]
      · rw [if_neg h, if_neg h, ← h2, wI_self]
  obtain ⟨g1, g2, -, -, -⟩ := s2_ok (T := T) hs
  unfold f_X6_peek
  rw [key (n - s) s N u (by omega) (by omega) h1 h2 hT, ob_s, show sk T (n - s) s = s2 T n s from rfl, wI_at, pk_un (by omega), pk_us, h1]
  unfold xs
  by_cases g : s2 T n s = n
  · rw [if_pos (nI_le (by omega) (by omega)), if_pos g]
  · rw [if_neg (nI_ge (by omega) (by omega)), if_neg g, og_nI (by omega) (by omega), nI_clamp (by omega), wI_ne (by omega), hT _ (by omega)]
/-! the two states side by side, in the midst of a reading -/
def pC (uc : zS) (n : Nat) (u : zS) (s a f t : Nat) : Prop := u.2 = uc.2 ∧ (∀ c, ¬ (21 ≤ c ∧ c ≤ 27) → c ≠ 31 → u.1 c = uc.1 c) ∧ (u.1 31 1 = nI n ∧ u.1 31 2 = nI s ∧ u.1 27 3 = uc.1 27 3 ∧ u.1 27 4 = nI 0) ∧ (u.1 21 6 = nI a ∧ u.1 21 7 = nI f ∧ u.1 21 8 = nI t ∧ u.1 21 9 = nI 0)
def pM (um : zS) (n : Nat) (w : zS) (s a f t : Nat) : Prop := w.2 = um.2 ∧ (∀ c, c ≠ 0 → c ≠ 1 → w.1 c = um.1 c) ∧ (w.1 0 1 = um.1 0 1 ∧ w.1 0 3 = nI n ∧ w.1 0 8 = nI s) ∧ (∀ k, k < 240 → w.1 1 k = um.1 1 k) ∧ (w.1 1 240 = nI a ∧ w.1 1 241 = nI f ∧ w.1 1 242 = nI t ∧ w.1 1 243 = nI 0 ∧ w.1 1 244 = um.1 1 4)
def pX (u w : zS) (a f t : Nat) : Prop := (a ≤ 8 ∧ f ≤ 5 ∧ t ≤ 16) ∧ (∀ i, i < a → ∃ p, p < 8 ∧ u.1 22 i = nI p ∧ w.1 1 (245 + i) = nI p) ∧ (∀ i, i < f → ∃ k g, k < 5 ∧ g < 8 ∧ u.1 23 i = nI k ∧ u.1 24 i = nI g ∧ w.1 1 (253 + i) = nI k ∧ w.1 1 (258 + i) = nI g ∧ ∀ p, p < 8 → u.1 25 (8 * i + p) = f_X6_leadsBy (nI k) (nI g) (nI p)) ∧ ∀ i, i < t → ∃ e, e < f ∧ u.1 26 i = nI e ∧ w.1 1 (263 + i) = nI e
def pR (uc um : zS) (n : Nat) (u w : zS) (s a f t : Nat) : Prop := s ≤ n ∧ pC uc n u s a f t ∧ pM um n w s a f t ∧ pX u w a f t
theorem pR_spot {uc um u w : zS} {n s a f t z : Nat} (h : pR uc um n u w s a f t) (hz : z ≤ n) : pR uc um n (wI u 31 2 (nI z)) (wI w 0 8 (nI z)) z a f t := by
  obtain ⟨-, ⟨c1, c2, ⟨c3, c4, c5, c6⟩, c7⟩, ⟨m1, m2, ⟨m3, m4, m5⟩, m6, m7⟩, x1, x2, x3, x4⟩ := h
  refine ⟨hz, ⟨c1, fun c g1 g2 => by rw [wI_ne g2]; exact c2 c g1 g2, ⟨by rw [wI_at, pk_un (by omega)]; exact c3, by rw [wI_at, pk_us], by rw [wI_ne (by omega)]; exact c5, by rw [wI_ne (by omega)]; exact c6⟩, by rw [wI_ne (by omega)]; exact c7⟩, ⟨m1, fun c g1 g2 => by rw [wI_ne g1]; exact m2 c g1 g2, ⟨by rw [wI_at, pk_un (by omega)]; exact m3, by rw [wI_at, pk_un (by omega)]; exact m4, by rw [wI_at, pk_us]⟩, fun k hk => by rw [wI_ne (by omega)]; exact m6 k hk, by rw [wI_ne (by omega)]; exact m7⟩, x1, fun i hi => ?_, fun i hi => ?_, fun i hi => ?_⟩
  · rw [wI_ne (by omega), wI_ne (by omega)]; exact x2 i hi
  · rw [wI_ne (by omega), wI_ne (by omega), wI_ne (by omega), wI_ne (by omega)]; exact x3 i hi
  · rw [wI_ne (by omega), wI_ne (by omega)]; exact x4 i hi
theorem pR_angel {uc um u w : zS} {n s a f t p : Nat} (h : pR uc um n u w s a f t) (ha : a < 8) (hp : p < 8) : ∃ r u', f_X1_addAngel 21 u (nI p) = some (r, u') ∧ pR uc um n u' (wI (wI w 1 (245 + a) (nI p)) 1 240 (nI (a + 1))) s (a + 1) f t := by
  obtain ⟨hs, ⟨c1, c2, ⟨c3, c4, c5, c6⟩, c7, c8, c9, c10⟩, ⟨m1, m2, ⟨m3, m4, m5⟩, m6, m7, m8, m9, m10, m11⟩, x1, x2, x3, x4⟩ := h
  unfold f_X1_addAngel
  rw [c7, if_pos (show nI a < 8 from nI_lt (a := a) (b := 8) (by omega) (by omega)), og_nI (by omega) (by omega), nI_clamp (by omega), ol, ol, show (wI u (21 + 1) a (nI p)).1 21 6 = nI a by rw [wI_ne (by omega)]; exact c7, show nI a + 1 = nI (a + 1) from nI_1 a]
  refine ⟨_, _, rfl, hs, ⟨c1, fun c g1 g2 => by rw [wI_ne (by omega), wI_ne (by omega)]; exact c2 c g1 g2, ⟨by rw [wI_ne (by omega), wI_ne (by omega)]; exact c3, by rw [wI_ne (by omega), wI_ne (by omega)]; exact c4, by rw [wI_ne (by omega), wI_ne (by omega)]; exact c5, by rw [wI_ne (by omega), wI_ne (by omega)]; exact c6⟩, by rw [wI_at, pk_us], by rw [wI_at, pk_un (by omega), wI_ne (by omega)]; exact c8, by rw [wI_at, pk_un (by omega), wI_ne (by omega)]; exact c9, by rw [wI_at, pk_un (by omega), wI_ne (by omega)]; exact c10⟩, ⟨m1, fun c g1 g2 => by rw [wI_ne g2, wI_ne g2]; exact m2 c g1 g2, ⟨by rw [wI_ne (by omega), wI_ne (by omega)]; exact m3, by rw [wI_ne (by omega), wI_ne (by omega)]; exact m4, by rw [wI_ne (by omega), wI_ne (by omega)]; exact m5⟩, fun k hk => by rw [wI_at, wI_at, pk_un (by omega), pk_un (by omega)]; exact m6 k hk, by rw [wI_at, pk_us], by rw [wI_at, wI_at, pk_un (by omega), pk_un (by omega)]; exact m8, by rw [wI_at, wI_at, pk_un (by omega), pk_un (by omega)]; exact m9, by rw [wI_at, wI_at, pk_un (by omega), pk_un (by omega)]; exact m10, by rw [wI_at, wI_at, pk_un (by omega), pk_un (by omega)]; exact m11⟩, ⟨by omega, x1.2.1, x1.2.2⟩, fun i hi => ?_, fun i hi => ?_, fun i hi => ?_⟩
  · have q22 : (wI (wI u (21 + 1) a (nI p)) 21 6 (nI (a + 1))).1 22 = upd (u.1 22) a (nI p) := by rw [wI_ne (by omega)]; exact wI_at
    have qw : (wI (wI w 1 (245 + a) (nI p)) 1 240 (nI (a + 1))).1 1 (245 + i) = upd (w.1 1) (245 + a) (nI p) (245 + i) := by rw [wI_at, wI_at, pk_un (by omega)]
    rw [q22, qw]
    by_cases e : i = a
    · subst e; rw [pk_us, pk_us]; exact ⟨p, hp, rfl, rfl⟩
    · rw [pk_un e, pk_un (by omega)]; exact x2 i (by omega)
  · obtain ⟨k, g, y1, y2, y3, y4, y5, y6, y7⟩ := x3 i hi
    refine ⟨k, g, y1, y2, by rw [wI_ne (by omega), wI_ne (by omega)]; exact y3, by rw [wI_ne (by omega), wI_ne (by omega)]; exact y4, by rw [wI_at, wI_at, pk_un (by omega), pk_un (by omega)]; exact y5, by rw [wI_at, wI_at, pk_un (by omega), pk_un (by omega)]; exact y6, fun p hp => by rw [wI_ne (by omega), wI_ne (by omega)]; exact y7 p hp⟩
  · obtain ⟨e, y1, y2, y3⟩ := x4 i hi
    exact ⟨e, y1, by rw [wI_ne (by omega), wI_ne (by omega)]; exact y2, by rw [wI_at, wI_at, pk_un (by omega), pk_un (by omega)]; exact y3⟩
theorem pR_figure {N : Nat} {uc um u w : zS} {n s a f k g : Nat} (hN : 300 ≤ N) (h : pR uc um n u w s a f 0) (hf : f < 5) (hk : k < 5) (hg : g < 8) : ∃ r u', f_X1_addFigure N 21 u (nI k) (nI g) = some (r, u') ∧ pR uc um n u' (wI (wI (wI w 1 (253 + f) (nI k)) 1 (258 + f) (nI g)) 1 241 (nI (f + 1))) s a (f + 1) 0 := by
  obtain ⟨hs, ⟨c1, c2, ⟨c3, c4, c5, c6⟩, c7, c8, c9, c10⟩, ⟨m1, m2, ⟨m3, m4, m5⟩, m6, m7, m8, m9, m10, m11⟩, x1, x2, x3, x4⟩ := h
  unfold f_X1_addFigure
  obtain ⟨v, t1, t2, t3, t4, t5, t6⟩ := tell_eq (N := N) (b := 21) (u := u) (f := f) (k := k) (g := g) hN hf hk hg
  have t21 : v.1 21 = u.1 21 := t3 21 (by omega) (by omega) (by omega)
  rw [c8, if_pos (show nI f < 5 from nI_lt (a := f) (b := 5) (by omega) (by omega)), t1, ob_s, ol, t21, c8, show nI f + 1 = nI (f + 1) from nI_1 f]
  have s1 : ∀ j, j ≠ 7 → (wI v 21 7 (nI (f + 1))).1 21 j = u.1 21 j := fun j hj => by rw [wI_at, pk_un hj, t21]
  have so : ∀ c, c ≠ 21 → c ≠ 23 → c ≠ 24 → c ≠ 25 → (wI v 21 7 (nI (f + 1))).1 c = u.1 c := fun c g1 g2 g3 g4 => by rw [wI_ne g1, t3 c g2 g3 g4]
  have r : ∀ j, j ≠ 241 → j ≠ 253 + f → j ≠ 258 + f → (wI (wI (wI w 1 (253 + f) (nI k)) 1 (258 + f) (nI g)) 1 241 (nI (f + 1))).1 1 j = w.1 1 j := fun j g1 g2 g3 => by rw [wI_at, wI_at, wI_at, pk_un g1, pk_un g3, pk_un g2]
  refine ⟨_, _, rfl, hs, ⟨by rw [wI_2, t2]; exact c1, fun c g1 g2 => by rw [so c (by omega) (by omega) (by omega) (by omega)]; exact c2 c g1 g2, ⟨by rw [so 31 (by omega) (by omega) (by omega) (by omega)]; exact c3, by rw [so 31 (by omega) (by omega) (by omega) (by omega)]; exact c4, by rw [so 27 (by omega) (by omega) (by omega) (by omega)]; exact c5, by rw [so 27 (by omega) (by omega) (by omega) (by omega)]; exact c6⟩, by rw [s1 6 (by omega)]; exact c7, by rw [wI_at, pk_us], by rw [s1 8 (by omega)]; exact c9, by rw [s1 9 (by omega)]; exact c10⟩, ⟨m1, fun c g1 g2 => by rw [wI_ne g2, wI_ne g2, wI_ne g2]; exact m2 c g1 g2, ⟨by rw [wI_ne (by omega), wI_ne (by omega), wI_ne (by omega)]; exact m3, by rw [wI_ne (by omega), wI_ne (by omega), wI_ne (by omega)]; exact m4, by rw [wI_ne (by omega), wI_ne (by omega), wI_ne (by omega)]; exact m5⟩, fun k hk => by rw [r k (by omega) (by omega) (by omega)]; exact m6 k hk, by rw [r _ (by omega) (by omega) (by omega)]; exact m7, by rw [wI_at, pk_us], by rw [r _ (by omega) (by omega) (by omega)]; exact m9, by rw [r _ (by omega) (by omega) (by omega)]; exact m10, by rw [r _ (by omega) (by omega) (by omega)]; exact m11⟩, ⟨x1.1, by omega, x1.2.2⟩, fun i hi => ?_, fun i hi => ?_, fun i hi => absurd hi (by omega)⟩
  · rw [so 22 (by omega) (by omega) (by omega) (by omega), r _ (by omega) (by omega) (by omega)]; exact x2 i hi
  · have q3 : (wI v 21 7 (nI (f + 1))).1 23 = upd (u.1 23) f (nI k) := by rw [wI_ne (by omega)]; exact t4
    have q4 : (wI v 21 7 (nI (f + 1))).1 24 = upd (u.1 24) f (nI g) := by rw [wI_ne (by omega)]; exact t5
    have q5 : ∀ j, (wI v 21 7 (nI (f + 1))).1 25 j = if 8 * f ≤ j ∧ j < 8 * f + 8 then f_X6_leadsBy (nI k) (nI g) (nI (j - 8 * f)) else u.1 25 j := fun j => by rw [wI_ne (by omega)]; exact t6 j
    by_cases e : i = f
    · subst e
      refine ⟨k, g, hk, hg, by rw [q3, pk_us], by rw [q4, pk_us], by rw [wI_at, wI_at, wI_at, pk_un (by omega), pk_un (by omega), pk_us], by rw [wI_at, wI_at, pk_un (by omega), pk_us], fun p hp => by rw [q5, if_pos (by omega), show 8 * i + p - 8 * i = p by omega]⟩
    · obtain ⟨k', g', y1, y2, y3, y4, y5, y6, y7⟩ := x3 i (by omega)
      exact ⟨k', g', y1, y2, by rw [q3, pk_un e]; exact y3, by rw [q4, pk_un e]; exact y4, by rw [r _ (by omega) (by omega) (by omega)]; exact y5, by rw [r _ (by omega) (by omega) (by omega)]; exact y6, fun p hp => by rw [q5, if_neg (by omega)]; exact y7 p hp⟩
theorem pR_tune {uc um u w : zS} {n s a f t e : Nat} (h : pR uc um n u w s a f t) (ht : t < 16) (he : e < f) : ∃ r u', f_X1_addToTune 21 u (nI e) = some (r, u') ∧ pR uc um n u' (wI (wI w 1 (263 + t) (nI e)) 1 242 (nI (t + 1))) s a f (t + 1) := by
  obtain ⟨hs, ⟨c1, c2, ⟨c3, c4, c5, c6⟩, c7, c8, c9, c10⟩, ⟨m1, m2, ⟨m3, m4, m5⟩, m6, m7, m8, m9, m10, m11⟩, x1, x2, x3, x4⟩ := h
  unfold f_X1_addToTune
  rw [c9, if_pos (show nI t < 16 from nI_lt (a := t) (b := 16) (by omega) (by omega)), og_nI (by omega) (by omega), nI_clamp (by omega), ol, ol, show (wI u (21 + 5) t (nI e)).1 21 8 = nI t by rw [wI_ne (by omega)]; exact c9, show nI t + 1 = nI (t + 1) from nI_1 t]
  refine ⟨_, _, rfl, hs, ⟨c1, fun c g1 g2 => by rw [wI_ne (by omega), wI_ne (by omega)]; exact c2 c g1 g2, ⟨by rw [wI_ne (by omega), wI_ne (by omega)]; exact c3, by rw [wI_ne (by omega), wI_ne (by omega)]; exact c4, by rw [wI_ne (by omega), wI_ne (by omega)]; exact c5, by rw [wI_ne (by omega), wI_ne (by omega)]; exact c6⟩, by rw [wI_at, pk_un (by omega), wI_ne (by omega)]; exact c7, by rw [wI_at, pk_un (by omega), wI_ne (by omega)]; exact c8, by rw [wI_at, pk_us], by rw [wI_at, pk_un (by omega), wI_ne (by omega)]; exact c10⟩, ⟨m1, fun c g1 g2 => by rw [wI_ne g2, wI_ne g2]; exact m2 c g1 g2, ⟨by rw [wI_ne (by omega), wI_ne (by omega)]; exact m3, by rw [wI_ne (by omega), wI_ne (by omega)]; exact m4, by rw [wI_ne (by omega), wI_ne (by omega)]; exact m5⟩, fun k hk => by rw [wI_at, wI_at, pk_un (by omega), pk_un (by omega)]; exact m6 k hk, by rw [wI_at, wI_at, pk_un (by omega), pk_un (by omega)]; exact m7, by rw [wI_at, wI_at, pk_un (by omega), pk_un (by omega)]; exact m8, by rw [wI_at, pk_us], by rw [wI_at, wI_at, pk_un (by omega), pk_un (by omega)]; exact m10, by rw [wI_at, wI_at, pk_un (by omega), pk_un (by omega)]; exact m11⟩, ⟨x1.1, x1.2.1, by omega⟩, fun i hi => ?_, fun i hi => ?_, fun i hi => ?_⟩
  · obtain ⟨p, y1, y2, y3⟩ := x2 i hi
    exact ⟨p, y1, by rw [wI_ne (by omega), wI_ne (by omega)]; exact y2, by rw [wI_at, wI_at, pk_un (by omega), pk_un (by omega)]; exact y3⟩
  · obtain ⟨k, g, y1, y2, y3, y4, y5, y6, y7⟩ := x3 i hi
    refine ⟨k, g, y1, y2, by rw [wI_ne (by omega), wI_ne (by omega)]; exact y3, by rw [wI_ne (by omega), wI_ne (by omega)]; exact y4, by rw [wI_at, wI_at, pk_un (by omega), pk_un (by omega)]; exact y5, by rw [wI_at, wI_at, pk_un (by omega), pk_un (by omega)]; exact y6, fun p hp => by rw [wI_ne (by omega), wI_ne (by omega)]; exact y7 p hp⟩
  · have q22 : (wI (wI u (21 + 5) t (nI e)) 21 8 (nI (t + 1))).1 26 = upd (u.1 26) t (nI e) := by rw [wI_ne (by omega)]; exact wI_at
    have qw : (wI (wI w 1 (263 + t) (nI e)) 1 242 (nI (t + 1))).1 1 (263 + i) = upd (w.1 1) (263 + t) (nI e) (263 + i) := by rw [wI_at, wI_at, pk_un (by omega)]
    rw [q22, qw]
    by_cases q : i = t
    · subst q; rw [pk_us, pk_us]; exact ⟨e, he, rfl, rfl⟩
    · rw [pk_un q, pk_un (by omega)]; exact x4 i (by omega)
