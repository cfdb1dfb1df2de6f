/-! THE RELATION between the class's state and the reference's -/
def vP (x : Int32) : Prop := x = -4 ∨ ∃ p, p < 8 ∧ x = nI p
def okW (W : Nat → Int32) (nA nF nT nB kn : Nat) : Prop :=
  (W 0 = nI nA ∧ W 1 = nI nF ∧ W 2 = nI nT ∧ W 3 = nI nB ∧ W 39 = nI kn) ∧ (nA ≤ 8 ∧ nF ≤ 5 ∧ nT ≤ 16 ∧ nB ≤ 9999 ∧ kn ≤ 8) ∧ 0 ≤ W 4 ∧
  (∀ i, i < nA → vP (W (5 + i))) ∧ (∀ i, i < nF → (∃ k, k < 5 ∧ W (13 + i) = nI k) ∧ ∃ f, f < 8 ∧ W (18 + i) = nI f) ∧
  (∀ i, i < nT → ∃ f, f < nF ∧ W (23 + i) = nI f) ∧
  (∀ j, j < kn → (∃ m, m ≤ 9999 ∧ W (40 + 10 * j) = nI m) ∧ 0 ≤ W (41 + 10 * j) ∧ ∀ i, i < nA → vP (W (42 + 10 * j + i)))
def cR (b : Nat) (u : zS) (W : Nat → Int32) (nA nF nT kn sl : Nat) : Prop :=
  (u.1 b 6 = W 0 ∧ u.1 b 7 = W 1 ∧ u.1 b 8 = W 2 ∧ u.1 b 9 = W 3 ∧ u.1 b 10 = W 4 ∧ u.1 (b + 6) 4 = W 39 ∧ u.1 (b + 6) 3 = nI sl ∧ sl < 8) ∧
  (∀ i, i < nA → u.1 (b + 1) i = W (5 + i)) ∧
  (∀ i, i < nF → u.1 (b + 2) i = W (13 + i) ∧ u.1 (b + 3) i = W (18 + i) ∧ ∀ p, p < 8 → u.1 (b + 4) (8 * i + p) = f_X6_leadsBy (W (13 + i)) (W (18 + i)) (nI p)) ∧
  (∀ i, i < nT → u.1 (b + 5) i = W (23 + i)) ∧
  (∀ j, j < kn → u.1 (b + 8) ((sl + 8 - kn + j) % 8) = W (40 + 10 * j) ∧ u.1 (b + 9) ((sl + 8 - kn + j) % 8) = W (41 + 10 * j) ∧ ∀ i, i < nA → u.1 (b + 7) (8 * ((sl + 8 - kn + j) % 8) + i) = W (42 + 10 * j + i))
/-- the tape; and the slot of the ring that is tried is a slot -/
def tpR (uc um : zS) : Prop := (∃ sl, sl < 8 ∧ uc.1 27 3 = nI sl) ∧ ∃ n, n ≤ 60 ∧ uc.1 31 1 = nI n ∧ um.1 0 3 = nI n ∧ ∀ i, i < n → uc.1 32 i = um.1 2 i
def shR (uc um : zS) : Prop := ∀ s, s < 4 → (uc.1 34 s = -4 ∧ um.1 4 s = -1) ∨ ∃ ln sz, ln < 4 ∧ sz ≤ 24 ∧ uc.1 34 s = nI ln ∧ um.1 5 s = nI ln ∧ uc.1 35 s = nI sz ∧ um.1 4 s = nI sz ∧ ∀ i, i < sz → uc.2 36 (24 * s + i) = um.2 3 (24 * s + i)
def imR (uc um : zS) : Prop := (uc.1 0 8 = 0 ∧ um.1 0 1 = 0) ∨ (uc.1 0 8 = 1 ∧ um.1 0 1 = 1 ∧ ∃ nA nF nT nB kn sl, okW (fun k => um.1 1 (120 + k)) nA nF nT nB kn ∧ cR 11 uc (fun k => um.1 1 (120 + k)) nA nF nT kn sl)
def rgR (uc um : zS) : Prop := ∃ nA nF nT nB kn sl, okW (um.1 1) nA nF nT nB kn ∧ cR 1 uc (um.1 1) nA nF nT kn sl
def RR (uc um : zS) : Prop := rgR uc um ∧ imR uc um ∧ tpR uc um ∧ shR uc um
theorem okW_congr {W V : Nat → Int32} {nA nF nT nB kn : Nat} (e : ∀ k, k < 120 → V k = W k) (h : okW W nA nF nT nB kn) : okW V nA nF nT nB kn := by
  obtain ⟨⟨a1, a2, a3, a4, a5⟩, ⟨b1, b2, b3, b4, b5⟩, c1, c2, c3, c4, c5⟩ := h
  refine ⟨⟨by rw [e 0 (by omega)]; exact a1, by rw [e 1 (by omega)]; exact a2, by rw [e 2 (by omega)]; exact a3, by rw [e 3 (by omega)]; exact a4, by rw [e 39 (by omega)]; exact a5⟩, ⟨b1, b2, b3, b4, b5⟩, by rw [e 4 (by omega)]; exact c1, fun i hi => by rw [e _ (by omega)]; exact c2 i hi, fun i hi => ?_, fun i hi => ?_, fun j hj => ?_⟩
  · rw [e (13 + i) (by omega), e (18 + i) (by omega)]; exact c3 i hi
  · rw [e _ (by omega)]; exact c4 i hi
  · rw [e (40 + 10 * j) (by omega), e (41 + 10 * j) (by omega)]
    exact ⟨(c5 j hj).1, (c5 j hj).2.1, fun i hi => by rw [e _ (by omega)]; exact (c5 j hj).2.2 i hi⟩
theorem cR_congr {b : Nat} {u w : zS} {W V : Nat → Int32} {nA nF nT nB kn sl : Nat} (ho : okW W nA nF nT nB kn) (e : ∀ k, k < 120 → V k = W k) (f : ∀ c, b ≤ c → c ≤ b + 9 → w.1 c = u.1 c) (h : cR b u W nA nF nT kn sl) : cR b w V nA nF nT kn sl := by
  obtain ⟨-, ⟨b1, b2, b3, b4, b5⟩, -⟩ := ho
  obtain ⟨⟨a1, a2, a3, a4, a5, a6, a7, a8⟩, c2, c3, c4, c5⟩ := h
  have f0 := f b (by omega) (by omega)
  have f1 := f (b + 1) (by omega) (by omega)
  have f2 := f (b + 2) (by omega) (by omega)
  have f3 := f (b + 3) (by omega) (by omega)
  have f4 := f (b + 4) (by omega) (by omega)
  have f5 := f (b + 5) (by omega) (by omega)
  have f6 := f (b + 6) (by omega) (by omega)
  have f7 := f (b + 7) (by omega) (by omega)
  have f8 := f (b + 8) (by omega) (by omega)
  have f9 := f (b + 9) (by omega) (by omega)
  unfold cR
  rw [f0, f1, f2, f3, f4, f5, f6, f7, f8, f9, e 0 (by omega), e 1 (by omega), e 2 (by omega), e 3 (by omega), e 4 (by omega), e 39 (by omega)]
  refine ⟨⟨a1, a2, a3, a4, a5, a6, a7, a8⟩, fun i hi => by rw [e _ (by omega)]; exact c2 i hi, fun i hi => ?_, fun i hi => by rw [e _ (by omega)]; exact c4 i hi, fun j hj => ?_⟩
  · rw [e (13 + i) (by omega), e (18 + i) (by omega)]; exact c3 i hi
  · rw [e (40 + 10 * j) (by omega), e (41 + 10 * j) (by omega)]
    exact ⟨(c5 j hj).1, (c5 j hj).2.1, fun i hi => by rw [e _ (by omega)]; exact (c5 j hj).2.2 i hi⟩
theorem imR_congr {uc um vc vm : zS} (h : imR uc um) (e0 : vc.1 0 8 = uc.1 0 8) (e1 : ∀ c, 11 ≤ c → c ≤ 20 → vc.1 c = uc.1 c) (e2 : vm.1 0 1 = um.1 0 1) (e3 : ∀ k, 120 ≤ k → k < 240 → vm.1 1 k = um.1 1 k) : imR vc vm := by
  rcases h with ⟨h1, h2⟩ | ⟨h1, h2, nA, nF, nT, nB, kn, sl, h3, h4⟩
  · exact Or.inl ⟨by rw [e0]; exact h1, by rw [e2]; exact h2⟩
  · exact Or.inr ⟨by rw [e0]; exact h1, by rw [e2]; exact h2, nA, nF, nT, nB, kn, sl, okW_congr (fun k hk => e3 (120 + k) (by omega) (by omega)) h3, cR_congr h3 (fun k hk => e3 (120 + k) (by omega) (by omega)) (fun c g1 g2 => e1 c g1 (by omega)) h4⟩
theorem tpR_congr {uc um vc vm : zS} (h : tpR uc um) (e0 : vc.1 31 1 = uc.1 31 1) (e1 : vc.1 32 = uc.1 32) (e2 : vm.1 0 3 = um.1 0 3) (e3 : vm.1 2 = um.1 2) (e4 : vc.1 27 3 = uc.1 27 3) : tpR vc vm := by
  obtain ⟨h0, n, h1, h2, h3, h4⟩ := h
  exact ⟨by rw [e4]; exact h0, n, h1, by rw [e0]; exact h2, by rw [e2]; exact h3, fun i hi => by rw [e1, e3]; exact h4 i hi⟩
theorem shR_congr {uc um vc vm : zS} (h : shR uc um) (e1 : vc.1 34 = uc.1 34) (e2 : vc.1 35 = uc.1 35) (e3 : vc.2 36 = uc.2 36) (e4 : vm.1 4 = um.1 4) (e5 : vm.1 5 = um.1 5) (e6 : vm.2 3 = um.2 3) : shR vc vm := by
  unfold shR
  rw [e1, e2, e3, e4, e5, e6]
  exact h
/-- what an operation on the ring leaves alone -/
def FC (uc vc : zS) : Prop := vc.1 0 = uc.1 0 ∧ (∀ c, 11 ≤ c → (c ≤ 20 ∨ c = 27) → vc.1 c = uc.1 c) ∧ vc.1 31 = uc.1 31 ∧ vc.1 32 = uc.1 32 ∧ vc.1 34 = uc.1 34 ∧ vc.1 35 = uc.1 35 ∧ vc.2 36 = uc.2 36
def FM (um vm : zS) : Prop := vm.1 0 1 = um.1 0 1 ∧ vm.1 0 3 = um.1 0 3 ∧ vm.1 2 = um.1 2 ∧ vm.1 4 = um.1 4 ∧ vm.1 5 = um.1 5 ∧ vm.2 3 = um.2 3 ∧ ∀ k, 120 ≤ k → k < 240 → vm.1 1 k = um.1 1 k
theorem FC.rfl' {u : zS} : FC u u := ⟨rfl, fun _ _ _ => rfl, rfl, rfl, rfl, rfl, rfl⟩
theorem FM.rfl' {u : zS} : FM u u := ⟨rfl, rfl, rfl, rfl, rfl, rfl, fun _ _ _ => rfl⟩
theorem FC.trans {u v w : zS} (h : FC u v) (k : FC v w) : FC u w := ⟨k.1.trans h.1, fun c a b => (k.2.1 c a b).trans (h.2.1 c a b), k.2.2.1.trans h.2.2.1, k.2.2.2.1.trans h.2.2.2.1, k.2.2.2.2.1.trans h.2.2.2.2.1, k.2.2.2.2.2.1.trans h.2.2.2.2.2.1, k.2.2.2.2.2.2.trans h.2.2.2.2.2.2⟩
theorem FM.trans {u v w : zS} (h : FM u v) (k : FM v w) : FM u w := ⟨k.1.trans h.1, k.2.1.trans h.2.1, k.2.2.1.trans h.2.2.1, k.2.2.2.1.trans h.2.2.2.1, k.2.2.2.2.1.trans h.2.2.2.2.1, k.2.2.2.2.2.1.trans h.2.2.2.2.2.1, fun c a b => (k.2.2.2.2.2.2 c a b).trans (h.2.2.2.2.2.2 c a b)⟩
theorem FC_wI {u : zS} {c i : Nat} {v : Int32} (h : c ≠ 0 ∧ ¬ (11 ≤ c ∧ c ≤ 20) ∧ c ≠ 27 ∧ c ≠ 31 ∧ c ≠ 32 ∧ c ≠ 34 ∧ c ≠ 35) : FC u (wI u c i v) := ⟨wI_ne (by omega), fun a h1 h2 => wI_ne (by omega), wI_ne (by omega), wI_ne (by omega), wI_ne (by omega), wI_ne (by omega), rfl⟩
theorem FM_wI {u : zS} {i : Nat} {v : Int32} (h : i < 120 ∨ 240 ≤ i) : FM u (wI u 1 i v) := ⟨rfl, rfl, wI_ne (by omega), wI_ne (by omega), wI_ne (by omega), rfl, fun k a b => by rw [wI_1, if_pos rfl, if_neg (by omega)]⟩
theorem FM_wJ {u : zS} {c i : Nat} {v : Int32} (h : 6 ≤ c) : FM u (wI u c i v) := ⟨by rw [wI_ne (by omega)], by rw [wI_ne (by omega)], wI_ne (by omega), wI_ne (by omega), wI_ne (by omega), rfl, fun k a b => by rw [wI_ne (by omega)]⟩
theorem FM_wL {u : zS} {c i : Nat} {v : Int64} (h : 6 ≤ c) : FM u (wL u c i v) := ⟨rfl, rfl, rfl, rfl, rfl, wL_ne (by omega), fun k a b => rfl⟩
theorem RR_now {uc um vc vm : zS} (h : RR uc um) (hr : rgR vc vm) (hc : FC uc vc) (hm : FM um vm) : RR vc vm :=
  ⟨hr, imR_congr h.2.1 (by rw [hc.1]) (fun c a b => hc.2.1 c a (Or.inl b)) hm.1 hm.2.2.2.2.2.2, tpR_congr h.2.2.1 (by rw [hc.2.2.1]) hc.2.2.2.1 hm.2.1 hm.2.2.1 (by rw [hc.2.1 27 (by omega) (by omega)]), shR_congr h.2.2.2 hc.2.2.2.2.1 hc.2.2.2.2.2.1 hc.2.2.2.2.2.2 hm.2.2.2.1 hm.2.2.2.2.1 hm.2.2.2.2.2.1⟩
theorem rgR_same {uc um vc vm : zS} (h : rgR uc um) (hc : ∀ c, 1 ≤ c → c ≤ 10 → vc.1 c = uc.1 c) (hm : ∀ k, k < 120 → vm.1 1 k = um.1 1 k) : rgR vc vm := by
  obtain ⟨nA, nF, nT, nB, kn, sl, h1, h2⟩ := h
  exact ⟨nA, nF, nT, nB, kn, sl, okW_congr hm h1, cR_congr h1 hm hc h2⟩
/-! small pure facts -/
theorem wi (v : Int32) {lo hi : Nat} (hh : hi < 2 ^ 31) (hl : lo < 2 ^ 31) : f_X5_within v (nI lo) (nI hi) = 0 ∨ ∃ k, lo ≤ k ∧ k ≤ hi ∧ v = nI k ∧ f_X5_within v (nI lo) (nI hi) = 1 := by
  unfold f_X5_within
  by_cases c1 : v < nI lo
  · left; rw [if_pos c1]
  · by_cases c2 : nI hi < v
    · left; rw [if_neg c1, if_pos c2]
    · right
      have h0 : ¬ v < 0 := fun q => c1 (by rw [fa_lt, nI_toInt hl]; rw [fa_lt] at q; have : (0 : Int32).toInt = 0 := by decide
                                           omega)
      obtain ⟨j, hj, rfl⟩ := nI_of h0
      refine ⟨j, ?_, ?_, rfl, by rw [if_neg c1, if_neg c2]⟩
      · rw [nI_ltI hj hl] at c1; omega
      · rw [nI_ltI hh hj] at c2; omega
theorem isPl (v : Int32) : f_X5_isPlace v = 0 ∨ ∃ p, p < 8 ∧ v = nI p ∧ f_X5_isPlace v = 1 := by
  rcases wi v (lo := 0) (hi := 7) (by omega) (by omega) with h | ⟨k, _, h2, h3, h4⟩
  · exact Or.inl h
  · exact Or.inr ⟨k, by omega, h3, h4⟩
theorem isPl_nI {p : Nat} (h : p < 8) : f_X5_isPlace (nI p) = 1 := by
  rcases isPl (nI p) with h0 | ⟨_, _, _, h1⟩
  · exfalso
    revert h0
    have : ∀ q, q < 8 → ¬ f_X5_isPlace (nI q) = 0 := by decide
    exact this p h
  · exact h1
theorem isPlace_eq (v : Int32) : f_X6_isPlace v = f_X5_isPlace v := in_within v 0 7
theorem hasA {b : Nat} {u : zS} {n : Nat} (h : u.1 b 6 = nI n) (hn : n < 2 ^ 31) (v : Int32) : f_X1_hasAngel b u v = 0 ∨ ∃ i, i < n ∧ v = nI i ∧ f_X1_hasAngel b u v = 1 := by
  unfold f_X1_hasAngel
  rw [h]
  by_cases c1 : v < 0
  · left; rw [if_pos c1]
  · by_cases c2 : nI n ≤ v
    · left; rw [if_neg c1, if_pos c2]
    · obtain ⟨j, hj, rfl⟩ := nI_of c1
      right
      rw [nI_leI hn hj] at c2
      exact ⟨j, by omega, rfl, by rw [if_neg c1, if_neg (by rw [nI_leI hn hj]; exact c2)]⟩
theorem hasF {b : Nat} {u : zS} {n : Nat} (h : u.1 b 7 = nI n) (hn : n < 2 ^ 31) (v : Int32) : f_X1_hasFigure b u v = 0 ∨ ∃ i, i < n ∧ v = nI i ∧ f_X1_hasFigure b u v = 1 := by
  unfold f_X1_hasFigure
  rw [h]
  by_cases c1 : v < 0
  · left; rw [if_pos c1]
  · by_cases c2 : nI n ≤ v
    · left; rw [if_neg c1, if_pos c2]
    · obtain ⟨j, hj, rfl⟩ := nI_of c1
      right
      rw [nI_leI hn hj] at c2
      exact ⟨j, by omega, rfl, by rw [if_neg c1, if_neg (by rw [nI_leI hn hj]; exact c2)]⟩
theorem in_below {n : Nat} (hn : n < 2 ^ 30) (v : Int32) : f_X6_in v.toInt64 0 (nI n - 1).toInt64 = if v < 0 then 0 else (if nI n ≤ v then 0 else 1) := by
  have h := in_within v 0 (nI n - 1)
  rw [show ((0 : Int32).toInt64) = (0 : Int64) from by decide] at h
  rw [h]
  unfold f_X5_within
  have e : (nI n - 1 < v) ↔ nI n ≤ v := by
    rw [fa_lt, fa_le, show (nI n - 1 : Int32) = nI n - nI 1 from rfl, pk_sub_toInt hn (by omega), nI_toInt (by omega)]
    omega
  by_cases c1 : v < 0
  · rw [if_pos c1, if_pos c1]
  · rw [if_neg c1, if_neg c1]
    by_cases c2 : nI n ≤ v
    · rw [if_pos (e.mpr c2), if_pos c2]
    · rw [if_neg (fun q => c2 (e.mp q)), if_neg c2]
theorem isAngel_eq {uc um : zS} {n : Nat} (h1 : um.1 1 0 = nI n) (h2 : uc.1 1 6 = nI n) (hn : n < 2 ^ 30) (v : Int32) : f_X6_isAngel um v = f_X1_hasAngel 1 uc v := by
  unfold f_X6_isAngel f_X1_hasAngel
  rw [h1, h2]
  exact in_below hn v
theorem isFigure_eq {uc um : zS} {n : Nat} (h1 : um.1 1 1 = nI n) (h2 : uc.1 1 7 = nI n) (hn : n < 2 ^ 30) (v : Int32) : f_X6_isFigure um v = f_X1_hasFigure 1 uc v := by
  unfold f_X6_isFigure f_X1_hasFigure
  rw [h1, h2]
  exact in_below hn v
theorem vP_bit {x : Int32} (h : vP x) : (x = -4 ∧ f_X5_bitOf x = 0) ∨ (¬ x = -4 ∧ ∃ p, p < 8 ∧ x = nI p ∧ f_X5_bitOf x = nI (2 ^ p) ∧ (1 : Int32) <<< (x &&& 31) = nI (2 ^ p)) := by
  rcases h with rfl | ⟨p, hp, rfl⟩
  · left; exact ⟨rfl, by decide⟩
  · right
    refine ⟨nI_n4 (by omega), p, hp, rfl, ?_⟩
    revert p
    decide
/-- the set of the first n places, as an int -/
def stF (W : Nat → Int32) : Nat → Int32
  | 0 => 0
  | n + 1 => stF W n ||| f_X5_bitOf (W (5 + n))
theorem stF_congr {W V : Nat → Int32} : ∀ {n : Nat}, (∀ i, i < n → V (5 + i) = W (5 + i)) → stF V n = stF W n
  | 0, _ => rfl
  | n + 1, h => by simp only [stF]; rw [stF_congr (fun i hi => h i (by omega)), h n (by omega)]
theorem stF_lt {W : Nat → Int32} : ∀ {n : Nat}, (∀ i, i < n → vP (W (5 + i))) → ∃ m, m < 256 ∧ stF W n = nI m
  | 0, _ => ⟨0, by omega, rfl⟩
  | n + 1, h => by
    obtain ⟨m, hm, e⟩ := stF_lt (n := n) (fun i hi => h i (by omega))
    simp only [stF]
    rw [e]
    rcases vP_bit (h n (by omega)) with ⟨_, h2⟩ | ⟨_, p, hp, _, h3, _⟩
    · rw [h2, show (0 : Int32) = nI 0 from rfl, fa_or]; exact ⟨m ||| 0, by simpa using hm, rfl⟩
    · rw [h3, fa_or]
      refine ⟨m ||| 2 ^ p, Nat.or_lt_two_pow (n := 8) hm (Nat.pow_lt_pow_right (by omega) hp), rfl⟩
theorem standing_eq {N b : Nat} {u : zS} {W : Nat → Int32} {n : Nat} (hN : 100 ≤ N) (h0 : u.1 b 6 = nI n) (hn : n ≤ 8) (hp : ∀ i, i < n → u.1 (b + 1) i = W (5 + i)) : f_X1_standing N b u = some (stF W n) := by
  have key : ∀ (k i m : Nat), i + k = n → k < m → f_X1_standing_L4 N b u m (stF W i) (nI i) = some (stF W n) := by
    intro k
    induction k with
    | zero =>
      intro i m h1 h2
      obtain ⟨m, rfl⟩ : ∃ q, m = q + 1 := ⟨m - 1, by omega⟩
      have : i = n := by omega
      subst this
      show f_X1_standing_L4_B N b u _ _ _ = _
      unfold f_X1_standing_L4_B
      rw [h0, if_pos (nI_le (Nat.le_refl _) (by omega))]
    | succ k ih =>
      intro i m h1 h2
      obtain ⟨m, rfl⟩ : ∃ q, m = q + 1 := ⟨m - 1, by omega⟩
      show f_X1_standing_L4_B N b u _ _ _ = _
      unfold f_X1_standing_L4_B
      rw [h0, if_neg (nI_ge (by omega) (by omega)), og_nI (by omega) (by omega), nI_clamp (by omega), hp i (by omega)]
      exact (congrArg _ (nI_1 i)).trans (ih (i + 1) m (by omega) (by omega))
  unfold f_X1_standing
  rw [show (0 : Int32) = stF W 0 from rfl, show f_X1_standing_L4 N b u N (stF W 0) (stF W 0) = some (stF W n) from key n 0 N (by omega) (by omega)]
  rfl
theorem taken_eq {N : Nat} {u : zS} {n : Nat} (hN : 100 ≤ N) (h0 : u.1 1 0 = nI n) (hn : n ≤ 8) (hv : ∀ i, i < n → vP (u.1 1 (5 + i))) : f_X6_taken N u = some (stF (u.1 1) n) := by
  have key : ∀ (k i m : Nat), i + k = n → k < m → f_X6_taken_L4 N u m (stF (u.1 1) i) (nI i) = some (stF (u.1 1) n) := by
    intro k
    induction k with
    | zero =>
      intro i m h1 h2
      obtain ⟨m, rfl⟩ : ∃ q, m = q + 1 := ⟨m - 1, by omega⟩
      have : i = n := by omega
      subst this
      show f_X6_taken_L4_B N u _ _ _ = _
      unfold f_X6_taken_L4_B
      rw [h0, if_pos (nI_le (Nat.le_refl _) (by omega))]
    | succ k ih =>
      intro i m h1 h2
      obtain ⟨m, rfl⟩ : ∃ q, m = q + 1 := ⟨m - 1, by omega⟩
      show f_X6_taken_L4_B N u _ _ _ = _
      unfold f_X6_taken_L4_B
      have e5 : (5 : Int32) + nI i = nI (5 + i) := nI_add 5 i
      rw [h0, if_neg (nI_ge (by omega) (by omega)), e5, og_nI (by omega) (by omega), nI_clamp (by omega)]
      have nx := ih (i + 1) m (by omega) (by omega)
      simp only [stF] at nx
      rcases vP_bit (hv i (by omega)) with ⟨g1, g2⟩ | ⟨g1, p, hp, g2, g3, g4⟩
      · rw [if_pos g1, show nI i + 1 = nI (i + 1) from nI_1 i]
        rw [g2] at nx
        exact nx
      · rw [if_neg g1, og_nI (by omega) (by omega), g4, show nI i + 1 = nI (i + 1) from nI_1 i]
        rw [g3] at nx
        exact nx
  unfold f_X6_taken
  rw [show (0 : Int32) = stF (u.1 1) 0 from rfl, show f_X6_taken_L4 N u N (stF (u.1 1) 0) (stF (u.1 1) 0) = some (stF (u.1 1) n) from key n 0 N (by omega) (by omega)]
  rfl
theorem has_holds : ∀ m, m < 256 → ∀ p, p < 8 → f_X6_has (nI m) (nI p) = f_X5_holds (nI m) (nI p) := by decide +kernel
theorem holds01 (x y : Int32) : f_X5_holds x y = 0 ∨ f_X5_holds x y = 1 := by unfold f_X5_holds; split <;> simp
