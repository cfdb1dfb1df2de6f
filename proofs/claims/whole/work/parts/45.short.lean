/-! how far it is yet: the reference's way; shortest -/
def yM (G : Nat → Nat → Nat) (nF t : Nat) (um w : zS) (E : Nat → Nat) : Prop := w.2 = um.2 ∧ (∀ c, c ≠ 9 → w.1 c = um.1 c) ∧ (∀ m, m < 256 → w.1 9 m = nI (E m)) ∧ (∀ m, m < 256 → E m ≤ 1000000) ∧ E t = 0 ∧ ∀ m, m < 256 → E m < 1000000 → bk G nF t (E m) m
def yH (G : Nat → Nat → Nat) (nF : Nat) (E0 E : Nat → Nat) (ch : Int32) (m f : Nat) : Prop := (ch = 1 ∧ fb_sm E 256 < fb_sm E0 256) ∨ (ch = 0 ∧ (∀ z, z < 256 → E z = E0 z) ∧ ∀ z g, (z < m ∨ (z = m ∧ g < f)) → z < 256 → g < nF → E0 z ≤ E0 (G g z) + 1)
theorem sm_sa (E : Nat → Nat) {m v : Nat} (hm : m < 256) (h : v < E m) : fb_sm (sa E m v) 256 < fb_sm E 256 := by
  have : fb_sm (sa E m v) 256 + E m = fb_sm E 256 + v := fb_sm_upd E v hm
  omega
theorem left_step {N : Nat} {um u : zS} {nA nF nT nB kn t m f : Nat} {E0 E : Nat → Nat} {ch : Int32} (hN : 300 ≤ N) (ho : okW (um.1 1) nA nF nT nB kn) (hm : m < 256) (hf : f < nF) (hy : yM (Gs (um.1 1)) nF t um u E) (hh : yH (Gs (um.1 1)) nF E0 E ch m f) (q : Nat) : ∃ u' E' ch', yM (Gs (um.1 1)) nF t um u' E' ∧ yH (Gs (um.1 1)) nF E0 E' ch' m (f + 1) ∧ f_X6_laysLeft_L52 N (nI m) (q + 1) u ch (nI f) = f_X6_laysLeft_L52 N (nI m) q u' ch' (nI (f + 1)) := by
  have hF := ho.2.1.2.1
  have hmm := Gs_lt ho hf m
  obtain ⟨y1, y2, y3, y4, y5, y6⟩ := hy
  have b1 := y4 _ hmm
  have b2 := y4 _ hm
  have eL : f_X6_laysLeft_L52 N (nI m) (q + 1) u ch (nI f) = if nI (E m) ≤ nI (E (Gs (um.1 1) f m) + 1) then f_X6_laysLeft_L52 N (nI m) q u ch (nI (f + 1)) else f_X6_laysLeft_L52 N (nI m) q (wI u 9 m (nI (E (Gs (um.1 1) f m) + 1))) 1 (nI (f + 1)) := by
    show f_X6_laysLeft_L52_B N _ _ _ _ _ = _
    unfold f_X6_laysLeft_L52_B
    rw [y2 1 (by omega), ho.1.2.1, if_neg (nI_ge (by omega) (by omega)), setLedM_eq hN (y2 1 (by omega)) ho hf hm, ob_s, og_nI hmm (by omega), nI_clamp (show Gs (um.1 1) f m < 2 ^ 31 by omega), y3 _ hmm, show nI (E (Gs (um.1 1) f m)) + 1 = nI (E (Gs (um.1 1) f m) + 1) from nI_1 _, ol, og_nI hm (by omega), nI_clamp (show m < 2 ^ 31 by omega), y3 m hm, og_nI hm (by omega), ol, show nI f + 1 = nI (f + 1) from nI_1 f]
  rw [eL]
  by_cases hle : E m ≤ E (Gs (um.1 1) f m) + 1
  · rw [if_pos (nI_le hle (by omega))]
    refine ⟨u, E, ch, ⟨y1, y2, y3, y4, y5, y6⟩, ?_, rfl⟩
    rcases hh with hh | ⟨h1, h2, h3⟩
    · exact Or.inl hh
    · refine Or.inr ⟨h1, h2, fun z g a b c => ?_⟩
      by_cases e : z = m ∧ g = f
      · obtain ⟨rfl, rfl⟩ := e
        rw [← h2 _ hm, ← h2 _ hmm]; exact hle
      · exact h3 z g (by omega) b c
  · rw [if_neg (nI_ge (by omega) (by omega))]
    have hmt : m ≠ t := fun e => by rw [e, y5] at hle; omega
    refine ⟨wI u 9 m (nI (E (Gs (um.1 1) f m) + 1)), sa E m (E (Gs (um.1 1) f m) + 1), 1, ⟨y1, fun c hc => by rw [wI_ne hc]; exact y2 c hc, fun z hz => ?_, fun z hz => ?_, by rw [sa_n (fun e => hmt e.symm)]; exact y5, fun z hz hlt => ?_⟩, Or.inl ⟨rfl, ?_⟩, rfl⟩
    · rw [wI_at]
      by_cases e : z = m
      · rw [e, pk_us, sa_s]
      · rw [pk_un e, sa_n e]; exact y3 z hz
    · by_cases e : z = m
      · rw [e, sa_s]; omega
      · rw [sa_n e]; exact y4 z hz
    · by_cases e : z = m
      · subst e
        rw [sa_s]
        exact ⟨f, hf, y6 _ hmm (by omega)⟩
      · rw [sa_n e] at hlt ⊢; exact y6 z hz hlt
    · have l1 := sm_sa E hm (show E (Gs (um.1 1) f m) + 1 < E m by omega)
      rcases hh with ⟨_, h2⟩ | ⟨_, h2, _⟩
      · omega
      · rw [fb_sm_cong (f := E) (g := E0) h2] at l1; exact l1
theorem sweep_eq {N : Nat} {um u : zS} {nA nF nT nB kn t : Nat} {E0 : Nat → Nat} (hN : 1000 ≤ N) (ho : okW (um.1 1) nA nF nT nB kn) (hy : yM (Gs (um.1 1)) nF t um u E0) : ∃ u' E' ch', f_X6_laysLeft_L42 N N u 0 0 = some (ch', u') ∧ yM (Gs (um.1 1)) nF t um u' E' ∧ yH (Gs (um.1 1)) nF E0 E' ch' 256 0 := by
  have hF := ho.2.1.2.1
  have node : ∀ (m : Nat) (u : zS) (E : Nat → Nat) (ch : Int32), m < 256 → yM (Gs (um.1 1)) nF t um u E → yH (Gs (um.1 1)) nF E0 E ch m 0 → ∃ u' E' ch', f_X6_laysLeft_L52 N (nI m) N u ch 0 = some (ch', u') ∧ yM (Gs (um.1 1)) nF t um u' E' ∧ yH (Gs (um.1 1)) nF E0 E' ch' (m + 1) 0 := by
    intro m u E ch hm h1 h2
    obtain ⟨v, v1, E', v2, v3⟩ := for_loop (L := fun q (s : Int32 × zS) i => f_X6_laysLeft_L52 N (nI m) q s.2 s.1 i) (n := nF) (fun j s => ∃ E, yM (Gs (um.1 1)) nF t um s.2 E ∧ yH (Gs (um.1 1)) nF E0 E s.1 m j)
      (fun q x hI => by
        obtain ⟨E, g1, g2⟩ := hI
        show f_X6_laysLeft_L52_B N _ _ _ _ _ = _
        unfold f_X6_laysLeft_L52_B
        rw [g1.2.1 1 (by omega), ho.1.2.1, if_pos (nI_le (Nat.le_refl _) (by omega))])
      (fun q x j hj hI => by
        obtain ⟨E, g1, g2⟩ := hI
        obtain ⟨u', E', ch', z1, z2, z3⟩ := left_step (N := N) (by omega) ho hm hj g1 g2 q
        exact ⟨(ch', u'), ⟨E', z1, z2⟩, z3⟩)
      nF 0 N (ch, u) (by omega) (by omega) ⟨E, h1, h2⟩
    refine ⟨v.2, E', v.1, v1, v2, ?_⟩
    rcases v3 with v3 | ⟨k1, k2, k3⟩
    · exact Or.inl v3
    · exact Or.inr ⟨k1, k2, fun z g a b c => k3 z g (by omega) b c⟩
  obtain ⟨v, v1, E', v2, v3⟩ := for_loop (L := fun q (s : Int32 × zS) i => f_X6_laysLeft_L42 N q s.2 s.1 i) (n := 256) (fun j s => ∃ E, yM (Gs (um.1 1)) nF t um s.2 E ∧ yH (Gs (um.1 1)) nF E0 E s.1 j 0)
    (fun q x hI => by
      show f_X6_laysLeft_L42_B N _ _ _ _ = _
      unfold f_X6_laysLeft_L42_B
      rw [if_pos (show (256 : Int32) ≤ nI 256 by decide)])
    (fun q x j hj hI => by
      obtain ⟨E, g1, g2⟩ := hI
      obtain ⟨u', E', ch', z1, z2, z3⟩ := node j x.2 E x.1 hj g1 g2
      refine ⟨(ch', u'), ⟨E', z2, z3⟩, ?_⟩
      show f_X6_laysLeft_L42_B N _ _ _ _ = _
      unfold f_X6_laysLeft_L42_B
      rw [if_neg (show ¬ (256 : Int32) ≤ nI j from nI_ge (a := j) (b := 256) (by omega) (by omega)), z1, ob_s, show nI j + 1 = nI (j + 1) from nI_1 j])
    256 0 N (0, u) (by omega) (by omega) ⟨E0, hy, Or.inr ⟨rfl, fun _ _ => rfl, fun z g a _ _ => by omega⟩⟩
  exact ⟨v.2, E', v.1, v1, v2, v3⟩
theorem left_eq {N : Nat} {um : zS} {nA nF nT nB kn t : Nat} (hN : 300000000 ≤ N) (ho : okW (um.1 1) nA nF nT nB kn) (ht : t < 256) : ∃ w E, f_X6_laysLeft N um (nI t) = some w ∧ yM (Gs (um.1 1)) nF t um w E ∧ ∀ k m, m < 256 → bk (Gs (um.1 1)) nF t k m → E m ≤ k := by
  obtain ⟨u1, a1, a2, a3, a4⟩ := for_loop (L := f_X6_laysLeft_L2 N (nI t)) (n := 256) (fun j x => x.2 = um.2 ∧ (∀ c, c ≠ 9 → x.1 c = um.1 c) ∧ ∀ k, k < j → x.1 9 k = nI (if k = t then 0 else 1000000))
    (fun q x _ => by
      show f_X6_laysLeft_L2_B N _ _ _ _ = _
      unfold f_X6_laysLeft_L2_B
      rw [if_pos (show (256 : Int32) ≤ nI 256 by decide)])
    (fun q x j hj hI => by
      refine ⟨wI x 9 j (nI (if j = t then 0 else 1000000)), ⟨hI.1, fun c hc => by rw [wI_ne hc]; exact hI.2.1 c hc, fun k hk => ?_⟩, ?_⟩
      · rw [wI_at]
        by_cases e : k = j
        · subst e; rw [pk_us]
        · rw [pk_un e]; exact hI.2.2 k (by omega)
      · show f_X6_laysLeft_L2_B N _ _ _ _ = _
        unfold f_X6_laysLeft_L2_B
        rw [if_neg (show ¬ (256 : Int32) ≤ nI j from nI_ge (a := j) (b := 256) (by omega) (by omega)), og_nI (by omega) (by omega), og_nI (by omega) (by omega), nI_clamp (by omega), ol, ol, show nI j + 1 = nI (j + 1) from nI_1 j]
        by_cases e : j = t
        · rw [if_pos (by rw [e]), if_pos e]; rfl
        · rw [if_neg (fun z => e ((nI_eq (by omega) (by omega)).mp z)), if_neg e]; rfl)
    256 0 N um (by omega) (by omega) ⟨rfl, fun _ _ => rfl, fun k hk => absurd hk (by omega)⟩
  have hy0 : yM (Gs (um.1 1)) nF t um u1 (fun k => if k = t then 0 else 1000000) := by
    refine ⟨a2, a3, a4, fun m _ => ?_, if_pos rfl, fun m _ hlt => ?_⟩
    · show (if m = t then 0 else 1000000) ≤ 1000000
      split <;> omega
    · have hlt : (if m = t then 0 else 1000000) < 1000000 := hlt
      show bk (Gs (um.1 1)) nF t (if m = t then 0 else 1000000) m
      by_cases e : m = t
      · rw [if_pos e]; exact e
      · rw [if_neg e] at hlt; omega
  have run : ∀ (s q : Nat) (u : zS) (E : Nat → Nat), fb_sm E 256 ≤ s → s + 1 < q → yM (Gs (um.1 1)) nF t um u E → ∃ w E', f_X6_laysLeft_L34 N q u 1 = some w ∧ yM (Gs (um.1 1)) nF t um w E' ∧ ∀ z g, z < 256 → g < nF → E' z ≤ E' (Gs (um.1 1) g z) + 1 := by
    intro s
    induction s with
    | zero =>
      intro q u E h1 h2 h3
      obtain ⟨q, rfl⟩ : ∃ z, q = z + 1 := ⟨q - 1, by omega⟩
      obtain ⟨q, rfl⟩ : ∃ z, q = z + 1 := ⟨q - 1, by omega⟩
      obtain ⟨u', E', ch', z1, z2, z3⟩ := sweep_eq (N := N) (by omega) ho h3
      have eL : f_X6_laysLeft_L34 N (q + 1 + 1) u 1 = f_X6_laysLeft_L34 N (q + 1) u' ch' := by
        show f_X6_laysLeft_L34_B N _ _ _ = _
        unfold f_X6_laysLeft_L34_B
        rw [if_neg (show ¬ (1 : Int32) = 0 by decide), z1, ob_s]
      rw [eL]
      rcases z3 with ⟨_, k2⟩ | ⟨k1, k2, k3⟩
      · omega
      · refine ⟨u', E', ?_, z2, fun z g a b => ?_⟩
        · show f_X6_laysLeft_L34_B N _ _ _ = _
          unfold f_X6_laysLeft_L34_B
          rw [if_pos k1]
        · rw [k2 z a, k2 _ (Gs_lt ho b z)]; exact k3 z g (by omega) a b
    | succ s ih =>
      intro q u E h1 h2 h3
      obtain ⟨q, rfl⟩ : ∃ z, q = z + 1 := ⟨q - 1, by omega⟩
      obtain ⟨q, rfl⟩ : ∃ z, q = z + 1 := ⟨q - 1, by omega⟩
      obtain ⟨u', E', ch', z1, z2, z3⟩ := sweep_eq (N := N) (by omega) ho h3
      have eL : f_X6_laysLeft_L34 N (q + 1 + 1) u 1 = f_X6_laysLeft_L34 N (q + 1) u' ch' := by
        show f_X6_laysLeft_L34_B N _ _ _ = _
        unfold f_X6_laysLeft_L34_B
        rw [if_neg (show ¬ (1 : Int32) = 0 by decide), z1, ob_s]
      rw [eL]
      rcases z3 with ⟨k1, k2⟩ | ⟨k1, k2, k3⟩
      · rw [k1]
        exact ih (q + 1) u' E' (by omega) (by omega) z2
      · refine ⟨u', E', ?_, z2, fun z g a b => ?_⟩
        · show f_X6_laysLeft_L34_B N _ _ _ = _
          unfold f_X6_laysLeft_L34_B
          rw [if_pos k1]
        · rw [k2 z a, k2 _ (Gs_lt ho b z)]; exact k3 z g (by omega) a b
  have hb : fb_sm (fun k => if k = t then 0 else 1000000) 256 ≤ 256 * 1000000 := fb_sm_bound (fun k hk => hy0.2.2.2.1 k hk)
  obtain ⟨w, E, z1, z2, z3⟩ := run (256 * 1000000) N u1 _ hb (by omega) hy0
  refine ⟨w, E, ?_, z2, ?_⟩
  · unfold f_X6_laysLeft
    rw [show f_X6_laysLeft_L2 N (nI t) N um 0 = some u1 from a1, ob_s, z1, ob_s]
  · intro k
    induction k with
    | zero =>
      intro m hm hb
      rw [show m = t from hb, z2.2.2.2.2.1]; exact Nat.le_refl 0
    | succ k ih =>
      rintro m hm ⟨f, hf, hb⟩
      have := ih _ (Gs_lt ho hf m) hb
      have := z3 m f hm hf
      omega
