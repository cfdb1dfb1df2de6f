/-! a search in breadth, by itself: nodes below M, edges G f for f below nF, from m0. Q: the nodes in their turn; par, lab, lev: of each turn the turn it was come from, the figure, how far. -/
def sa (f : Nat → Nat) (k v : Nat) : Nat → Nat := fun j => if j = k then v else f j
theorem sa_s {f : Nat → Nat} {k v : Nat} : sa f k v k = v := if_pos rfl
theorem sa_n {f : Nat → Nat} {k v j : Nat} (h : j ≠ k) : sa f k v j = f j := if_neg h
def bI (G : Nat → Nat → Nat) (nF m0 M nx f : Nat) (Q par lab lev : Nat → Nat) (R : Nat) : Prop :=
  (1 ≤ R ∧ Q 0 = m0 ∧ lev 0 = 0) ∧
  (∀ i j, i < R → j < R → Q i = Q j → i = j) ∧
  (∀ i, 1 ≤ i → i < R → par i < i ∧ lab i < nF ∧ G (lab i) (Q (par i)) = Q i ∧ lev i = lev (par i) + 1 ∧ (par i < nx ∨ (par i = nx ∧ lab i < f))) ∧
  (∀ i j, 1 ≤ i → i < j → j < R → par i < par j ∨ (par i = par j ∧ lab i < lab j)) ∧
  (∀ j g, (j < nx ∨ (j = nx ∧ g < f)) → g < nF → j < R → ∃ i, i < R ∧ Q i = G g (Q j) ∧ (i = 0 ∨ par i < j ∨ (par i = j ∧ lab i ≤ g))) ∧
  (∀ i, i < R → Q i < M)
theorem b_start {G : Nat → Nat → Nat} {nF m0 M : Nat} (h : m0 < M) (Q par lab lev : Nat → Nat) (h0 : Q 0 = m0) (h1 : lev 0 = 0) : bI G nF m0 M 0 0 Q par lab lev 1 := by
  refine ⟨⟨Nat.le_refl 1, h0, h1⟩, fun i j hi hj _ => by omega, fun i h1 h2 => by omega, fun i j h1 h2 h3 => by omega, fun j g h1 h2 h3 => by omega, fun i hi => ?_⟩
  have : i = 0 := by omega
  rw [this, h0]; exact h
theorem b_le {G : Nat → Nat → Nat} {nF m0 M nx f R : Nat} {Q par lab lev : Nat → Nat} (h : bI G nF m0 M nx f Q par lab lev R) : R ≤ M :=
  fb_holes M R Q h.2.2.2.2.2 (fun i j h1 h2 e => by have := h.2.1 i j (by omega) h2 e; omega)
theorem b_lt {G : Nat → Nat → Nat} {nF m0 M nx f R m : Nat} {Q par lab lev : Nat → Nat} (h : bI G nF m0 M nx f Q par lab lev R) (hm : m < M) (hn : ∀ i, i < R → Q i ≠ m) : R < M := by
  refine fb_holes M (R + 1) (sa Q R m) (fun i hi => ?_) (fun i j h1 h2 e => ?_)
  · by_cases e : i = R
    · rw [e, sa_s]; exact hm
    · rw [sa_n e]; exact h.2.2.2.2.2 i (by omega)
  · by_cases e2 : j = R
    · rw [e2, sa_s, sa_n (by omega)] at e; exact hn i (by omega) e
    · rw [sa_n e2, sa_n (by omega)] at e
      have := h.2.1 i j (by omega) (by omega) e
      omega
theorem b_old {G : Nat → Nat → Nat} {nF m0 M nx f R i : Nat} {Q par lab lev : Nat → Nat} (h : bI G nF m0 M nx f Q par lab lev R) (hi : i < R) (e : Q i = G f (Q nx)) : bI G nF m0 M nx (f + 1) Q par lab lev R := by
  obtain ⟨h1, h2, h3, h4, h5, h6⟩ := h
  refine ⟨h1, h2, fun k a b => ?_, h4, fun j g a b c => ?_, h6⟩
  · obtain ⟨x1, x2, x3, x4, x5⟩ := h3 k a b
    exact ⟨x1, x2, x3, x4, by omega⟩
  · by_cases q : j = nx ∧ g = f
    · obtain ⟨rfl, rfl⟩ := q
      refine ⟨i, hi, e, ?_⟩
      by_cases hi0 : i = 0
      · exact Or.inl hi0
      · obtain ⟨x1, x2, x3, x4, x5⟩ := h3 i (by omega) hi
        omega
    · exact h5 j g (by omega) b c
theorem b_new {G : Nat → Nat → Nat} {nF m0 M nx f R : Nat} {Q par lab lev : Nat → Nat} (h : bI G nF m0 M nx f Q par lab lev R) (hx : nx < R) (hf : f < nF) (hn : ∀ i, i < R → Q i ≠ G f (Q nx)) (hm : G f (Q nx) < M) : bI G nF m0 M nx (f + 1) (sa Q R (G f (Q nx))) (sa par R nx) (sa lab R f) (sa lev R (lev nx + 1)) (R + 1) := by
  obtain ⟨⟨h0, h1, h1'⟩, h2, h3, h4, h5, h6⟩ := h
  refine ⟨⟨by omega, by rw [sa_n (by omega)]; exact h1, by rw [sa_n (by omega)]; exact h1'⟩, fun i j hi hj e => ?_, fun k a b => ?_, fun i j a b c => ?_, fun j g a b c => ?_, fun i hi => ?_⟩
  · by_cases e1 : i = R
    · by_cases e2 : j = R
      · omega
      · rw [e1, sa_s, sa_n e2] at e; exact absurd e.symm (hn j (by omega))
    · by_cases e2 : j = R
      · rw [e2, sa_s, sa_n e1] at e; exact absurd e (hn i (by omega))
      · rw [sa_n e1, sa_n e2] at e; exact h2 i j (by omega) (by omega) e
  · by_cases e1 : k = R
    · subst e1
      rw [sa_s, sa_s, sa_s, sa_s, sa_n (show nx ≠ k by omega), sa_n (show nx ≠ k by omega)]
      exact ⟨hx, hf, rfl, rfl, by omega⟩
    · obtain ⟨x1, x2, x3, x4, x5⟩ := h3 k a (by omega)
      rw [sa_n e1, sa_n e1, sa_n e1, sa_n e1, sa_n (show par k ≠ R by omega), sa_n (show par k ≠ R by omega)]
      exact ⟨x1, x2, x3, x4, by omega⟩
  · by_cases e2 : j = R
    · subst e2
      obtain ⟨x1, x2, x3, x4, x5⟩ := h3 i a b
      rw [sa_s, sa_s, sa_n (show i ≠ j by omega), sa_n (show i ≠ j by omega)]
      omega
    · rw [sa_n e2, sa_n e2, sa_n (show i ≠ R by omega), sa_n (show i ≠ R by omega)]
      exact h4 i j a b (by omega)
  · by_cases q : j = nx ∧ g = f
    · obtain ⟨rfl, rfl⟩ := q
      refine ⟨R, by omega, ?_, Or.inr (Or.inr ?_)⟩
      · rw [sa_s, sa_n (by omega)]
      · rw [sa_s, sa_s]; omega
    · have hj : j < R := by omega
      obtain ⟨i, x1, x2, x3⟩ := h5 j g (by omega) b hj
      refine ⟨i, by omega, ?_, ?_⟩
      · rw [sa_n (by omega), sa_n (by omega)]; exact x2
      · rw [sa_n (show i ≠ R by omega), sa_n (show i ≠ R by omega)]; exact x3
  · by_cases e1 : i = R
    · rw [e1, sa_s]; exact hm
    · rw [sa_n e1]; exact h6 i (by omega)
theorem b_next {G : Nat → Nat → Nat} {nF m0 M nx R : Nat} {Q par lab lev : Nat → Nat} (h : bI G nF m0 M nx nF Q par lab lev R) : bI G nF m0 M (nx + 1) 0 Q par lab lev R := by
  obtain ⟨h1, h2, h3, h4, h5, h6⟩ := h
  refine ⟨h1, h2, fun k a b => ?_, h4, fun j g a b c => h5 j g (by omega) b c, h6⟩
  obtain ⟨x1, x2, x3, x4, x5⟩ := h3 k a b
  exact ⟨x1, x2, x3, x4, by omega⟩
/-! what a finished search tells -/
def bE (G : Nat → Nat → Nat) (nF m0 M : Nat) (Q par lab lev : Nat → Nat) (R : Nat) : Prop := bI G nF m0 M R 0 Q par lab lev R
theorem e_lev {G : Nat → Nat → Nat} {nF m0 M R : Nat} {Q par lab lev : Nat → Nat} (h : bE G nF m0 M Q par lab lev R) : ∀ j i, i ≤ j → j < R → lev i ≤ lev j := by
  intro j
  induction j using Nat.strongRecOn with
  | ind j ih =>
    intro i hi hj
    by_cases e : i = j
    · rw [e]; exact Nat.le_refl _
    by_cases e0 : i = 0
    · rw [e0, h.1.2.2]; exact Nat.zero_le _
    obtain ⟨x1, x2, x3, x4, x5⟩ := h.2.2.1 j (by omega) hj
    obtain ⟨y1, y2, y3, y4, y5⟩ := h.2.2.1 i (by omega) (by omega)
    have o := h.2.2.2.1 i j (by omega) (by omega) hj
    have := ih (par j) x1 (par i) (by omega) (by omega)
    omega
theorem e_edge {G : Nat → Nat → Nat} {nF m0 M R j g : Nat} {Q par lab lev : Nat → Nat} (h : bE G nF m0 M Q par lab lev R) (hj : j < R) (hg : g < nF) : ∃ i, i < R ∧ Q i = G g (Q j) ∧ (i = 0 ∨ par i < j ∨ (par i = j ∧ lab i ≤ g)) ∧ lev i ≤ lev j + 1 := by
  obtain ⟨i, x1, x2, x3⟩ := h.2.2.2.2.1 j g (by omega) hg hj
  refine ⟨i, x1, x2, x3, ?_⟩
  by_cases e0 : i = 0
  · rw [e0, h.1.2.2]; exact Nat.zero_le _
  obtain ⟨y1, y2, y3, y4, y5⟩ := h.2.2.1 i (by omega) x1
  have := e_lev h j (par i) (by omega) hj
  omega
/-- m is come to from m0 by k figures -/
def fw (G : Nat → Nat → Nat) (nF m0 : Nat) : Nat → Nat → Prop
  | 0, m => m = m0
  | k + 1, m => ∃ f c, f < nF ∧ fw G nF m0 k c ∧ G f c = m
/-- t is come to from m by k figures -/
def bk (G : Nat → Nat → Nat) (nF t : Nat) : Nat → Nat → Prop
  | 0, m => m = t
  | k + 1, m => ∃ f, f < nF ∧ bk G nF t k (G f m)
theorem e_fw {G : Nat → Nat → Nat} {nF m0 M R : Nat} {Q par lab lev : Nat → Nat} (h : bE G nF m0 M Q par lab lev R) : ∀ i, i < R → fw G nF m0 (lev i) (Q i) := by
  intro i
  induction i using Nat.strongRecOn with
  | ind i ih =>
    intro hi
    by_cases e0 : i = 0
    · rw [e0, h.1.2.2]; exact h.1.2.1
    obtain ⟨y1, y2, y3, y4, y5⟩ := h.2.2.1 i (by omega) hi
    rw [y4]
    exact ⟨lab i, Q (par i), y2, ih (par i) y1 (by omega), y3⟩
theorem e_has {G : Nat → Nat → Nat} {nF m0 M R : Nat} {Q par lab lev : Nat → Nat} (h : bE G nF m0 M Q par lab lev R) : ∀ k m, fw G nF m0 k m → ∃ i, i < R ∧ Q i = m ∧ lev i ≤ k := by
  intro k
  induction k with
  | zero =>
    intro m hm
    have := h.1.1
    exact ⟨0, by omega, by rw [h.1.2.1]; exact (show m = m0 from hm).symm, by rw [h.1.2.2]; exact Nat.le_refl 0⟩
  | succ k ih =>
    rintro m ⟨f, c, h1, h2, h3⟩
    obtain ⟨j, j1, j2, j3⟩ := ih c h2
    obtain ⟨i, i1, i2, -, i4⟩ := e_edge h j1 h1
    exact ⟨i, i1, by rw [i2, j2, h3], by omega⟩
theorem e_bk {G : Nat → Nat → Nat} {nF m0 M R t : Nat} {Q par lab lev : Nat → Nat} (h : bE G nF m0 M Q par lab lev R) : ∀ k j, j < R → bk G nF t k (Q j) → ∃ i, i < R ∧ Q i = t ∧ lev i ≤ lev j + k := by
  intro k
  induction k with
  | zero =>
    intro j hj hb
    exact ⟨j, hj, hb, Nat.le_refl _⟩
  | succ k ih =>
    rintro j hj ⟨f, h1, h2⟩
    obtain ⟨i, i1, i2, -, i4⟩ := e_edge h hj h1
    rw [← i2] at h2
    obtain ⟨x, x1, x2, x3⟩ := ih i i1 h2
    exact ⟨x, x1, x2, by omega⟩
/-- turns by which turn x was come to: n turns back -/
def anc (par : Nat → Nat) : Nat → Nat → Nat
  | 0, x => x
  | n + 1, x => par (anc par n x)
theorem e_anc {G : Nat → Nat → Nat} {nF m0 M R x : Nat} {Q par lab lev : Nat → Nat} (h : bE G nF m0 M Q par lab lev R) (hx : x < R) : ∀ n, n ≤ lev x → anc par n x < R ∧ lev (anc par n x) + n = lev x ∧ bk G nF (Q x) n (Q (anc par n x)) := by
  intro n
  induction n with
  | zero => intro _; exact ⟨hx, rfl, rfl⟩
  | succ n ih =>
    intro hn
    obtain ⟨h1, h2, h3⟩ := ih (by omega)
    have h0 : anc par n x ≠ 0 := fun e => by rw [e, h.1.2.2] at h2; omega
    obtain ⟨y1, y2, y3, y4, y5⟩ := h.2.2.1 (anc par n x) (by omega) h1
    refine ⟨?_, ?_, lab (anc par n x), y2, ?_⟩
    · show par (anc par n x) < R; omega
    · show lev (par (anc par n x)) + (n + 1) = _; omega
    · show bk G nF (Q x) n (G (lab (anc par n x)) (Q (par (anc par n x)))); rw [y3]; exact h3
/-- of the turns as far as it from which x is come to in time, the one that the search took is the first -/
theorem e_first {G : Nat → Nat → Nat} {nF m0 M R x : Nat} {Q par lab lev : Nat → Nat} (h : bE G nF m0 M Q par lab lev R) (hx : x < R) : ∀ n z, n ≤ lev x → z < R → lev z + n = lev x → bk G nF (Q x) n (Q z) → anc par n x ≤ z := by
  intro n
  induction n with
  | zero =>
    intro z h1 h2 h3 h4
    have := h.2.1 z x h2 hx h4
    rw [this]; exact Nat.le_refl _
  | succ n ih =>
    rintro z h1 h2 h3 ⟨f, h4, h5⟩
    obtain ⟨i, i1, i2, i3, i4⟩ := e_edge h h2 h4
    rw [← i2] at h5
    obtain ⟨y, y1, y2, y3⟩ := e_bk h n i i1 h5
    have : y = x := h.2.1 y x y1 hx y2
    rw [this] at y3
    have hi0 : i ≠ 0 := fun e => by rw [e, h.1.2.2] at y3; omega
    have hp : par i ≤ z := by omega
    have a1 := ih i (by omega) i1 (by omega) h5
    obtain ⟨b1, b2, -⟩ := e_anc h hx n (by omega)
    show par (anc par n x) ≤ z
    by_cases e : anc par n x = i
    · rw [e]; exact hp
    · have hne : anc par n x ≠ 0 := fun e => by rw [e, h.1.2.2] at b2; omega
      have := h.2.2.2.1 (anc par n x) i (by omega) (by omega) i1
      omega
/-- of the figures that lead on in time, the one that the search took is the least -/
theorem e_least {G : Nat → Nat → Nat} {nF m0 M R x n f : Nat} {Q par lab lev : Nat → Nat} (h : bE G nF m0 M Q par lab lev R) (hx : x < R) (hn : n + 1 ≤ lev x) (hf : f < nF) (hb : bk G nF (Q x) n (G f (Q (anc par (n + 1) x)))) : lab (anc par n x) ≤ f := by
  obtain ⟨a1, a2, -⟩ := e_anc h hx (n + 1) hn
  obtain ⟨b1, b2, -⟩ := e_anc h hx n (by omega)
  obtain ⟨i, i1, i2, i3, i4⟩ := e_edge h a1 hf
  rw [← i2] at hb
  obtain ⟨y, y1, y2, y3⟩ := e_bk h n i i1 hb
  have : y = x := h.2.1 y x y1 hx y2
  rw [this] at y3
  have hi0 : i ≠ 0 := fun e => by rw [e, h.1.2.2] at y3; omega
  have f1 := e_first h hx n i (by omega) i1 (by omega) hb
  have hpar : anc par (n + 1) x = par (anc par n x) := rfl
  by_cases e : anc par n x = i
  · rw [e] at hpar ⊢
    omega
  · have hne : anc par n x ≠ 0 := fun e => by rw [e, h.1.2.2] at b2; omega
    have := h.2.2.2.1 (anc par n x) i (by omega) (by omega) i1
    omega
theorem e_same {G : Nat → Nat → Nat} {nF m0 M R R2 : Nat} {Q par lab lev Q2 par2 lab2 lev2 : Nat → Nat} (h : bE G nF m0 M Q par lab lev R) (h2 : bE G nF m0 M Q2 par2 lab2 lev2 R2) : R ≤ R2 := by
  have ex : ∀ i, i < R → ∃ j, j < R2 ∧ Q2 j = Q i := fun i hi => by
    obtain ⟨j, j1, j2, -⟩ := e_has h2 _ _ (e_fw h i hi)
    exact ⟨j, j1, j2⟩
  refine fb_holes R2 R (fun i => if hi : i < R then (ex i hi).choose else 0) (fun i hi => ?_) (fun i j h3 h4 e => ?_)
  · simp only [dif_pos hi]; exact (ex i hi).choose_spec.1
  · simp only [dif_pos h4, dif_pos (show i < R by omega)] at e
    have e1 := (ex i (by omega)).choose_spec.2
    have e2 := (ex j h4).choose_spec.2
    rw [e, e2] at e1
    have := h.2.1 i j (by omega) h4 e1.symm
    omega
