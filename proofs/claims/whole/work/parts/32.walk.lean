/-! foretold: walks of n beats, rounds of the tune, when one is back -/
/-- n beats on, from the beat of number s -/
def wk (W : Nat → Int32) (nT s : Nat) : Nat → Int32 → Int32
  | 0, x => x
  | n + 1, x => gS W nT (s + n) (wk W nT s n x)
/-- k rounds of the tune on -/
def itR (W : Nat → Int32) (nT s : Nat) : Nat → Int32 → Int32
  | 0, x => x
  | k + 1, x => wk W nT s nT (itR W nT s k x)
theorem wk_vP {W : Nat → Int32} {nA nF nT nB kn : Nat} (h : okW W nA nF nT nB kn) (s : Nat) {x : Int32} (hx : vP x) : ∀ n, vP (wk W nT s n x)
  | 0 => hx
  | n + 1 => gS_vP h _ (wk_vP h s hx n)
theorem itR_vP {W : Nat → Int32} {nA nF nT nB kn : Nat} (h : okW W nA nF nT nB kn) (s : Nat) {x : Int32} (hx : vP x) : ∀ n, vP (itR W nT s n x)
  | 0 => hx
  | n + 1 => wk_vP h s (itR_vP h s hx n) nT
theorem gS_gone (W : Nat → Int32) (nT t : Nat) : gS W nT t (-4) = -4 := by
  unfold gS
  by_cases h : nT = 0
  · rw [if_pos h]
  · rw [if_neg h, if_pos rfl]
theorem wk_gone (W : Nat → Int32) (nT s : Nat) : ∀ n, wk W nT s n (-4) = -4
  | 0 => rfl
  | n + 1 => by simp only [wk]; rw [wk_gone W nT s n, gS_gone]
theorem gS_place {W : Nat → Int32} {nA nF nT nB kn : Nat} (h : okW W nA nF nT nB kn) (t : Nat) {p : Nat} (hp : p < 8) : ∃ q, q < 8 ∧ gS W nT t (nI p) = nI q := by
  unfold gS
  by_cases h0 : nT = 0
  · rw [if_pos h0]; exact ⟨p, hp, rfl⟩
  · rw [if_neg h0, if_neg (nI_n4 (by omega))]
    obtain ⟨f, hf, ef⟩ := h.2.2.2.2.2.1 (t % nT) (Nat.mod_lt _ (by omega))
    have hF := h.2.1.2.1
    rw [ef, nI_clamp (by omega)]
    obtain ⟨⟨k, hk, ek⟩, g, hg, eg⟩ := h.2.2.2.2.1 f hf
    rw [ek, eg]
    exact leadsBy_lt k hk g hg p hp
theorem leadsBy_inj : ∀ k, k < 5 → ∀ g, g < 8 → ∀ p, p < 8 → ∀ q, q < 8 → f_X6_leadsBy (nI k) (nI g) (nI p) = f_X6_leadsBy (nI k) (nI g) (nI q) → p = q := by decide +kernel
theorem gS_inj {W : Nat → Int32} {nA nF nT nB kn : Nat} (h : okW W nA nF nT nB kn) (t : Nat) {p q : Nat} (hp : p < 8) (hq : q < 8) (e : gS W nT t (nI p) = gS W nT t (nI q)) : p = q := by
  unfold gS at e
  by_cases h0 : nT = 0
  · rw [if_pos h0, if_pos h0] at e; exact (nI_eq (by omega) (by omega)).mp e
  · rw [if_neg h0, if_neg h0, if_neg (nI_n4 (by omega)), if_neg (nI_n4 (by omega))] at e
    obtain ⟨f, hf, ef⟩ := h.2.2.2.2.2.1 (t % nT) (Nat.mod_lt _ (by omega))
    have hF := h.2.1.2.1
    rw [ef, nI_clamp (by omega)] at e
    obtain ⟨⟨k, hk, ek⟩, g, hg, eg⟩ := h.2.2.2.2.1 f hf
    rw [ek, eg] at e
    exact leadsBy_inj k hk g hg p hp q hq e
theorem wk_place {W : Nat → Int32} {nA nF nT nB kn : Nat} (h : okW W nA nF nT nB kn) (s : Nat) {p : Nat} (hp : p < 8) : ∀ n, ∃ q, q < 8 ∧ wk W nT s n (nI p) = nI q
  | 0 => ⟨p, hp, rfl⟩
  | n + 1 => by
    obtain ⟨q, hq, e⟩ := wk_place h s hp n
    simp only [wk]; rw [e]; exact gS_place h _ hq
theorem wk_inj {W : Nat → Int32} {nA nF nT nB kn : Nat} (h : okW W nA nF nT nB kn) (s : Nat) {p q : Nat} (hp : p < 8) (hq : q < 8) : ∀ n, wk W nT s n (nI p) = wk W nT s n (nI q) → p = q
  | 0, e => (nI_eq (by omega) (by omega)).mp e
  | n + 1, e => by
    obtain ⟨a, ha, ea⟩ := wk_place h s hp n
    obtain ⟨c, hc, ec⟩ := wk_place h s hq n
    simp only [wk] at e
    rw [ea, ec] at e
    have := gS_inj h _ ha hc e
    subst this
    exact wk_inj h s hp hq n (by rw [ea, ec])
theorem itR_place {W : Nat → Int32} {nA nF nT nB kn : Nat} (h : okW W nA nF nT nB kn) (s : Nat) {p : Nat} (hp : p < 8) : ∀ n, ∃ q, q < 8 ∧ itR W nT s n (nI p) = nI q
  | 0 => ⟨p, hp, rfl⟩
  | n + 1 => by
    obtain ⟨q, hq, e⟩ := itR_place h s hp n
    simp only [itR]; rw [e]; exact wk_place h s hq nT
theorem itR_add (W : Nat → Int32) (nT s m : Nat) (x : Int32) : ∀ n, itR W nT s (m + n) x = itR W nT s n (itR W nT s m x)
  | 0 => rfl
  | n + 1 => by show wk _ _ _ _ (itR W nT s (m + n) x) = _; rw [itR_add W nT s m x n]; rfl
theorem itR_inj {W : Nat → Int32} {nA nF nT nB kn : Nat} (h : okW W nA nF nT nB kn) (s : Nat) {p q : Nat} (hp : p < 8) (hq : q < 8) : ∀ n, itR W nT s n (nI p) = itR W nT s n (nI q) → p = q
  | 0, e => (nI_eq (by omega) (by omega)).mp e
  | n + 1, e => by
    obtain ⟨a, ha, ea⟩ := itR_place h s hp n
    obtain ⟨c, hc, ec⟩ := itR_place h s hq n
    simp only [itR] at e
    rw [ea, ec] at e
    have := wk_inj h s ha hc nT e
    subst this
    exact itR_inj h s hp hq n (by rw [ea, ec])
/-- r rounds bring x back, and no fewer -/
def isP (W : Nat → Int32) (nT s : Nat) (x : Int32) (r : Nat) : Prop := 1 ≤ r ∧ r ≤ 8 ∧ itR W nT s r x = x ∧ ∀ j, 1 ≤ j → j < r → ¬ itR W nT s j x = x
theorem per_ex {W : Nat → Int32} {nA nF nT nB kn : Nat} (h : okW W nA nF nT nB kn) (s : Nat) {x : Int32} (hx : vP x) : ∃ r, isP W nT s x r := by
  have ex : ∃ r, r < 9 ∧ (1 ≤ r ∧ itR W nT s r x = x) := by
    rcases hx with rfl | ⟨p, hp, rfl⟩
    · exact ⟨1, by omega, by omega, wk_gone W nT s nT⟩
    · obtain ⟨f, hf⟩ : ∃ f : Nat → Nat, ∀ i, f i < 8 ∧ itR W nT s i (nI p) = nI (f i) := ⟨fun i => (itR_place h s hp i).choose, fun i => (itR_place h s hp i).choose_spec⟩
      obtain ⟨i, j, hij, hj, e⟩ := fb_twice (m := 8) (n := 9) (f := f) (fun i _ => (hf i).1) (by omega)
      refine ⟨j - i, by omega, by omega, ?_⟩
      have e1 : itR W nT s i (itR W nT s (j - i) (nI p)) = itR W nT s i (nI p) := by
        rw [← itR_add, show j - i + i = j by omega, (hf j).2, (hf i).2, e]
      rw [(hf (j - i)).2] at e1 ⊢
      rw [itR_inj h s (hf (j - i)).1 hp i e1]
  obtain ⟨r, h1, h2, h3⟩ := fb_first (p := fun r => 1 ≤ r ∧ itR W nT s r x = x) ex
  exact ⟨r, h2.1, by omega, h2.2, fun j g1 g2 e => h3 j g2 ⟨g1, e⟩⟩
theorem walk_eq {N b : Nat} {u : zS} {W : Nat → Int32} {nA nF nT nB kn n : Nat} (hN : 300 ≤ N) (ho : okW W nA nF nT nB kn) (h : cT b u W nF nT) (h9 : u.1 b 9 = nI nB) (hn : n ≤ 200) {x : Int32} (hx : vP x) : f_X1_walk N b u x (nI n) = some (wk W nT nB n x) := by
  have hB := ho.2.1.2.2.2.1
  have key : ∀ (k i m : Nat), i + k = n → k < m → f_X1_walk_L5 N b u (nI n) m (wk W nT nB i x) (nI i) = some (wk W nT nB n x) := by
    intro k
    induction k with
    | zero =>
      intro i m h1 h2
      obtain ⟨m, rfl⟩ : ∃ q, m = q + 1 := ⟨m - 1, by omega⟩
      have : i = n := by omega
      subst this
      show f_X1_walk_L5_B N b u _ _ _ _ = _
      unfold f_X1_walk_L5_B
      rw [if_pos (nI_le (Nat.le_refl _) (by omega))]
    | succ k ih =>
      intro i m h1 h2
      obtain ⟨m, rfl⟩ : ∃ q, m = q + 1 := ⟨m - 1, by omega⟩
      show f_X1_walk_L5_B N b u _ _ _ _ = _
      unfold f_X1_walk_L5_B
      rw [if_neg (nI_ge (by omega) (by omega)), h9, nI_add, goesOn_eq ho h (by omega) (wk_vP ho nB hx i), ob_s, show nI i + 1 = nI (i + 1) from nI_1 i]
      exact ih (i + 1) m (by omega) (by omega)
  unfold f_X1_walk
  rw [show f_X1_walk_L5 N b u (nI n) N x 0 = some (wk W nT nB n x) from key n 0 N (by omega) (by omega)]
  rfl
theorem tuneAt {um : zS} {nA nF nT nB kn t : Nat} (ho : okW (um.1 1) nA nF nT nB kn) (h0 : 0 < nT) (ht : t < 2 ^ 31) {p : Nat} (hp : p < 8) {β : Type} (Z : Int32 → Option β) : (og (neB (nI nT)) <| (og (inB (23 + (nI t - nI t / nI nT * nI nT)) 279) <| (ob (f_X6_leadsOf um (um.1 1 (Int32.toNatClampNeg (23 + (nI t - nI t / nI nT * nI nT)))) (nI p)) Z))) = Z (gS (um.1 1) nT t (nI p)) := by
  have b3 := ho.2.1.2.2.1
  have b2 := ho.2.1.2.1
  have hlt := Nat.mod_lt t h0
  obtain ⟨f, hf, ef⟩ := ho.2.2.2.2.2.1 (t % nT) hlt
  rw [og_neN h0 (by omega), pk_rem ht h0 (by omega), show (23 : Int32) + nI (t % nT) = nI (23 + t % nT) from nI_add 23 _, og_nI (by omega) (by omega), nI_clamp (by omega), ef, leadsOf_eq (by omega), ob_s]
  unfold gS
  rw [if_neg (by omega), if_neg (nI_n4 (by omega)), ef, nI_clamp (by omega)]
theorem goesBy_eq {N : Nat} {um : zS} {nA nF nT nB kn n p : Nat} (hN : 300 ≤ N) (ho : okW (um.1 1) nA nF nT nB kn) (h0 : 0 < nT) (hn : n ≤ 200) (hp : p < 8) : f_X6_goesBy N um (nI p) (nI n) = some (wk (um.1 1) nT nB n (nI p)) := by
  have hB := ho.2.1.2.2.2.1
  have key : ∀ (k i m : Nat), i + k = n → k < m → f_X6_goesBy_L5 N um (nI n) m (wk (um.1 1) nT nB i (nI p)) (nI i) = some (wk (um.1 1) nT nB n (nI p)) := by
    intro k
    induction k with
    | zero =>
      intro i m h1 h2
      obtain ⟨m, rfl⟩ : ∃ q, m = q + 1 := ⟨m - 1, by omega⟩
      have : i = n := by omega
      subst this
      show f_X6_goesBy_L5_B N um _ _ _ _ = _
      unfold f_X6_goesBy_L5_B
      rw [if_pos (nI_le (Nat.le_refl _) (by omega))]
    | succ k ih =>
      intro i m h1 h2
      obtain ⟨m, rfl⟩ : ∃ q, m = q + 1 := ⟨m - 1, by omega⟩
      show f_X6_goesBy_L5_B N um _ _ _ _ = _
      unfold f_X6_goesBy_L5_B
      obtain ⟨q, hq, eq⟩ := wk_place ho nB hp i
      rw [if_neg (nI_ge (by omega) (by omega)), ho.1.2.2.1, ho.1.2.2.2.1, nI_add, eq, tuneAt ho h0 (by omega) hq, show nI i + 1 = nI (i + 1) from nI_1 i, ← eq]
      exact ih (i + 1) m (by omega) (by omega)
  unfold f_X6_goesBy
  rw [show f_X6_goesBy_L5 N um (nI n) N (nI p) 0 = some (wk (um.1 1) nT nB n (nI p)) from key n 0 N (by omega) (by omega)]
  rfl
theorem rounds_eq {N b : Nat} {u : zS} {W : Nat → Int32} {nA nF nT nB kn r : Nat} (hN : 300 ≤ N) (ho : okW W nA nF nT nB kn) (h : cT b u W nF nT) (h9 : u.1 b 9 = nI nB) {x : Int32} (hx : vP x) (hr : isP W nT nB x r) : f_X1_roundsTillBack N b u x = some (nI r) := by
  have hT := ho.2.1.2.2.1
  obtain ⟨r1, r2, r3, r4⟩ := hr
  have l8 : u.1 b 8 = nI nT := h.1.trans ho.1.2.2.1
  have key : ∀ (k i m : Nat), i + k = r → 1 ≤ i → k < m → f_X1_roundsTillBack_L12 N b u x m (nI i) (itR W nT nB i x) = some (nI r) := by
    intro k
    induction k with
    | zero =>
      intro i m h1 h2 h3
      obtain ⟨m, rfl⟩ : ∃ q, m = q + 1 := ⟨m - 1, by omega⟩
      have : i = r := by omega
      subst this
      show f_X1_roundsTillBack_L12_B N b u _ _ _ _ = _
      unfold f_X1_roundsTillBack_L12_B
      by_cases h8 : (8 : Int32) ≤ nI i
      · rw [if_pos h8]
      · rw [if_neg h8, if_pos r3]
    | succ k ih =>
      intro i m h1 h2 h3
      obtain ⟨m, rfl⟩ : ∃ q, m = q + 1 := ⟨m - 1, by omega⟩
      show f_X1_roundsTillBack_L12_B N b u _ _ _ _ = _
      unfold f_X1_roundsTillBack_L12_B
      rw [if_neg (show ¬ (8 : Int32) ≤ nI i from nI_ge (a := i) (b := 8) (by omega) (by omega)), if_neg (r4 i h2 (by omega)), l8, walk_eq hN ho h h9 (by omega) (itR_vP ho nB hx i), ob_s, show nI i + 1 = nI (i + 1) from nI_1 i]
      exact ih (i + 1) m (by omega) (by omega) (by omega)
  unfold f_X1_roundsTillBack
  rw [l8, walk_eq hN ho h h9 (by omega) hx, ob_s, show f_X1_roundsTillBack_L12 N b u x N 1 (wk W nT nB nT x) = some (nI r) from key (r - 1) 1 N (by omega) (by omega) (by omega)]
  rfl
theorem ringOf_eq {N : Nat} {um : zS} {nA nF nT nB kn r p : Nat} (hN : 300 ≤ N) (ho : okW (um.1 1) nA nF nT nB kn) (h0 : 0 < nT) (hp : p < 8) (hr : isP (um.1 1) nT nB (nI p) r) : f_X6_ringOf N um (nI p) = some (nI r) := by
  have hT := ho.2.1.2.2.1
  obtain ⟨r1, r2, r3, r4⟩ := hr
  have l8 := ho.1.2.2.1
  have key : ∀ (k i m : Nat), i + k = r → 1 ≤ i → k < m → f_X6_ringOf_L14 N um (nI p) m (nI i) (itR (um.1 1) nT nB i (nI p)) = some (nI r) := by
    intro k
    induction k with
    | zero =>
      intro i m h1 h2 h3
      obtain ⟨m, rfl⟩ : ∃ q, m = q + 1 := ⟨m - 1, by omega⟩
      have : i = r := by omega
      subst this
      show f_X6_ringOf_L14_B N um _ _ _ _ = _
      unfold f_X6_ringOf_L14_B
      rw [if_pos r3]
    | succ k ih =>
      intro i m h1 h2 h3
      obtain ⟨m, rfl⟩ : ∃ q, m = q + 1 := ⟨m - 1, by omega⟩
      show f_X6_ringOf_L14_B N um _ _ _ _ = _
      unfold f_X6_ringOf_L14_B
      obtain ⟨q, hq, eq⟩ := itR_place ho nB hp i
      rw [if_neg (r4 i h2 (by omega)), l8, eq, goesBy_eq hN ho h0 (by omega) hq, ob_s, show nI i + 1 = nI (i + 1) from nI_1 i, ← eq]
      exact ih (i + 1) m (by omega) (by omega) (by omega)
  unfold f_X6_ringOf
  rw [l8, goesBy_eq hN ho h0 (by omega) hp, ob_s, show f_X6_ringOf_L14 N um (nI p) N 1 (wk (um.1 1) nT nB nT (nI p)) = some (nI r) from key (r - 1) 1 N (by omega) (by omega) (by omega)]
  rfl
/-- where one is behind n beats, by rounds and a rest -/
def bh (W : Nat → Int32) (nT s r n : Nat) (x : Int32) : Int32 := if nT = 0 then x else wk W nT s (n % nT) (itR W nT s (n / nT % r) x)
theorem behindC {N b : Nat} {u : zS} {W : Nat → Int32} {nA nF nT nB kn r n : Nat} (hN : 300 ≤ N) (ho : okW W nA nF nT nB kn) (h : cT b u W nF nT) (h9 : u.1 b 9 = nI nB) {x : Int32} (hx : vP x) (hr : isP W nT nB x r) (hn : n < 2 ^ 31) : f_X1_placeBehind N b u x (nI n) = some (bh W nT nB r n x) := by
  have hT := ho.2.1.2.2.1
  have l8 : u.1 b 8 = nI nT := h.1.trans ho.1.2.2.1
  have r1 := hr.1
  have r2 := hr.2.1
  unfold f_X1_placeBehind bh
  rw [rounds_eq hN ho h h9 hx hr, ob_s, l8]
  by_cases h0 : nT = 0
  · subst h0
    rw [if_pos (show nI 0 ≤ (0 : Int32) by decide), if_pos rfl]
  have hq := Nat.div_le_self n nT
  have hlt := Nat.mod_lt (n / nT) (show 0 < r by omega)
  have hlt2 := Nat.mod_lt n (show 0 < nT by omega)
  rw [if_neg (show ¬ nI nT ≤ 0 from nI_nle (by omega) (by omega)), if_pos (show (0 : Int32) < nI r from nI_lt (a := 0) (by omega) (by omega)), og_neN (by omega) (by omega), og_neN (by omega) (by omega), if_neg h0, pk_rem (a := n) (d := nT) hn (by omega) (by omega), pk_div hn (by omega) (by omega), pk_rem (by omega) (by omega) (by omega)]
  have key : ∀ (k i m : Nat), i + k = n / nT % r → k < m → f_X1_placeBehind_L35 N b u (nI n) (nI (n / nT % r)) m (itR W nT nB i x) (nI i) = some (itR W nT nB (n / nT % r) x) := by
    intro k
    induction k with
    | zero =>
      intro i m h1 h2
      obtain ⟨m, rfl⟩ : ∃ q, m = q + 1 := ⟨m - 1, by omega⟩
      have : i = n / nT % r := by omega
      subst this
      show f_X1_placeBehind_L35_B N b u _ _ _ _ _ = _
      unfold f_X1_placeBehind_L35_B
      rw [if_pos (nI_le (Nat.le_refl _) (by omega))]
    | succ k ih =>
      intro i m h1 h2
      obtain ⟨m, rfl⟩ : ∃ q, m = q + 1 := ⟨m - 1, by omega⟩
      show f_X1_placeBehind_L35_B N b u _ _ _ _ _ = _
      unfold f_X1_placeBehind_L35_B
      rw [if_neg (nI_ge (by omega) (by omega)), l8, walk_eq hN ho h h9 (by omega) (itR_vP ho nB hx i), ob_s, show nI i + 1 = nI (i + 1) from nI_1 i]
      exact ih (i + 1) m (by omega) (by omega)
  rw [show f_X1_placeBehind_L35 N b u (nI n) (nI (n / nT % r)) N x 0 = _ from key (n / nT % r) 0 N (by omega) (by omega), ob_s, og_neN (by omega) (by omega), walk_eq hN ho h h9 (by omega) (itR_vP ho nB hx _)]
  rfl
theorem behindM {N : Nat} {um : zS} {nA nF nT nB kn r n : Nat} (hN : 300 ≤ N) (ho : okW (um.1 1) nA nF nT nB kn) {x : Int32} (hx : vP x) (hr : isP (um.1 1) nT nB x r) (hn : n < 2 ^ 31) : f_X6_behind N um x (nI n) = some (bh (um.1 1) nT nB r n x) := by
  have hT := ho.2.1.2.2.1
  have l8 := ho.1.2.2.1
  have r1 := hr.1
  have r2 := hr.2.1
  unfold f_X6_behind bh
  rcases hx with rfl | ⟨p, hp, rfl⟩
  · rw [if_pos rfl]
    by_cases h0 : nT = 0
    · rw [if_pos h0]
    · rw [if_neg h0]
      have : ∀ k, itR (um.1 1) nT nB k (-4) = -4 := by
        intro k
        induction k with
        | zero => rfl
        | succ k ih => simp only [itR]; rw [ih]; exact wk_gone _ _ _ _
      rw [this, wk_gone]
  rw [if_neg (nI_n4 (by omega)), l8]
  by_cases h0 : nT = 0
  · subst h0
    rw [if_pos (show nI 0 = (0 : Int32) by decide), if_pos rfl]
  have hq := Nat.div_le_self n nT
  have hlt := Nat.mod_lt (n / nT) (show 0 < r by omega)
  have hlt2 := Nat.mod_lt n (show 0 < nT by omega)
  rw [if_neg (show ¬ nI nT = 0 from nI_ne0 (by omega) (by omega)), og_neN (by omega) (by omega), ringOf_eq hN ho (by omega) hp hr, ob_s, og_neN (by omega) (by omega), if_neg h0, pk_rem (a := n) (d := nT) hn (by omega) (by omega), pk_div hn (by omega) (by omega), pk_rem (by omega) (by omega) (by omega)]
  have key : ∀ (k i m : Nat), i + k = n / nT % r → k < m → f_X6_behind_L38 N um (nI n) (nI (n / nT % r)) m (itR (um.1 1) nT nB i (nI p)) (nI i) = some (itR (um.1 1) nT nB (n / nT % r) (nI p)) := by
    intro k
    induction k with
    | zero =>
      intro i m h1 h2
      obtain ⟨m, rfl⟩ : ∃ q, m = q + 1 := ⟨m - 1, by omega⟩
      have : i = n / nT % r := by omega
      subst this
      show f_X6_behind_L38_B N um _ _ _ _ _ = _
      unfold f_X6_behind_L38_B
      rw [if_pos (nI_le (Nat.le_refl _) (by omega))]
    | succ k ih =>
      intro i m h1 h2
      obtain ⟨m, rfl⟩ : ∃ q, m = q + 1 := ⟨m - 1, by omega⟩
      show f_X6_behind_L38_B N um _ _ _ _ _ = _
      unfold f_X6_behind_L38_B
      obtain ⟨q, hq, eq⟩ := itR_place ho nB hp i
      rw [if_neg (nI_ge (by omega) (by omega)), l8, eq, goesBy_eq hN ho (by omega) (by omega) hq, ob_s, show nI i + 1 = nI (i + 1) from nI_1 i, ← eq]
      exact ih (i + 1) m (by omega) (by omega)
  obtain ⟨q, hq, eq⟩ := itR_place ho nB hp (n / nT % r)
  rw [show f_X6_behind_L38 N um (nI n) (nI (n / nT % r)) N (nI p) 0 = _ from key (n / nT % r) 0 N (by omega) (by omega), ob_s, og_neN (by omega) (by omega), eq, goesBy_eq hN ho (by omega) (by omega) hq]
  rfl
theorem bh_vP {W : Nat → Int32} {nA nF nT nB kn r n : Nat} (h : okW W nA nF nT nB kn) {x : Int32} (hx : vP x) : vP (bh W nT nB r n x) := by
  unfold bh
  by_cases h0 : nT = 0
  · rw [if_pos h0]; exact hx
  · rw [if_neg h0]; exact wk_vP h nB (itR_vP h nB hx _) _
theorem ok_ahead {N : Nat} {uc um : zS} (hN : 300 ≤ N) (h : RR uc um) (a0 a1' : Int32) : op_ahead N RR uc um a0 a1' := by
  unfold op_ahead f_X5_ahead f_X6_ahead f_X6_isTime
  obtain ⟨nA, nF, nT, nB, kn, sl, hW, hc⟩ := h.1
  have a1 := hW.1.1
  have b1 := hW.2.1.1
  have d1 := hc.1.1
  rw [isAngel_eq a1 (d1.trans a1) (by omega), show f_X6_in a1'.toInt64 0 2000000000 = f_X5_within a1' 0 2000000000 from in_within a1' 0 2000000000]
  rcases hasA (d1.trans a1) (by omega) a0 with h0 | ⟨i, hi, rfl, h1⟩
  · rw [if_pos h0, if_pos h0]; exact ⟨_, rfl, rfl, h⟩
  have h1n : ¬ f_X1_hasAngel 1 uc (nI i) = 0 := by rw [h1]; decide
  rw [if_neg h1n, if_neg h1n]
  rcases wi a1' (lo := 0) (hi := 2000000000) (by omega) (by omega) with h0 | ⟨n, _, hn, rfl, h2⟩
  · have h0 : f_X5_within a1' 0 2000000000 = 0 := h0
    rw [if_pos h0, if_pos h0]; exact ⟨_, rfl, rfl, h⟩
  have h2n : ¬ f_X5_within (nI n) 0 2000000000 = 0 := by rw [show f_X5_within (nI n) 0 2000000000 = 1 from h2]; decide
  have e : uc.1 2 i = um.1 1 (5 + i) := hc.2.1 i hi
  have hv := hW.2.2.2.1 i hi
  obtain ⟨r, hr⟩ := per_ex hW nB hv
  rw [if_neg h2n, if_neg h2n, show (5 : Int32) + nI i = nI (5 + i) from nI_add 5 i, og_nI (by omega) (by omega), og_nI (by omega) (by omega), nI_clamp (by omega), nI_clamp (by omega), e, behindC hN hW hc.t (hc.1.2.2.2.1.trans hW.1.2.2.2.1) hv hr (by omega), behindM hN hW hv hr (by omega)]
  exact ⟨_, rfl, rfl, h⟩
