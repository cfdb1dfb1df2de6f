theorem li0 : (0 : Int32) = nI 0 := rfl
theorem li1 : (1 : Int32) = nI 1 := rfl
theorem li2 : (2 : Int32) = nI 2 := rfl
theorem li3 : (3 : Int32) = nI 3 := rfl
theorem li4 : (4 : Int32) = nI 4 := rfl
theorem li5 : (5 : Int32) = nI 5 := rfl
theorem li6 : (6 : Int32) = nI 6 := rfl
theorem li7 : (7 : Int32) = nI 7 := rfl
theorem li8 : (8 : Int32) = nI 8 := rfl
theorem li10 : (10 : Int32) = nI 10 := rfl
theorem li11 : (11 : Int32) = nI 11 := rfl
theorem li13 : (13 : Int32) = nI 13 := rfl
theorem li14 : (14 : Int32) = nI 14 := rfl
theorem li16 : (16 : Int32) = nI 16 := rfl
theorem li18 : (18 : Int32) = nI 18 := rfl
theorem li20 : (20 : Int32) = nI 20 := rfl
theorem li21 : (21 : Int32) = nI 21 := rfl
theorem li23 : (23 : Int32) = nI 23 := rfl
theorem li24 : (24 : Int32) = nI 24 := rfl
theorem li31 : (31 : Int32) = nI 31 := rfl
theorem li32 : (32 : Int32) = nI 32 := rfl
theorem li39 : (39 : Int32) = nI 39 := rfl
theorem li40 : (40 : Int32) = nI 40 := rfl
theorem li48 : (48 : Int32) = nI 48 := rfl
theorem li50 : (50 : Int32) = nI 50 := rfl
theorem li60 : (60 : Int32) = nI 60 := rfl
theorem li63 : (63 : Int32) = nI 63 := rfl
theorem li64 : (64 : Int32) = nI 64 := rfl
theorem li70 : (70 : Int32) = nI 70 := rfl
theorem li96 : (96 : Int32) = nI 96 := rfl
theorem li120 : (120 : Int32) = nI 120 := rfl
theorem li126 : (126 : Int32) = nI 126 := rfl
theorem li240 : (240 : Int32) = nI 240 := rfl
theorem li241 : (241 : Int32) = nI 241 := rfl
theorem li242 : (242 : Int32) = nI 242 := rfl
theorem li243 : (243 : Int32) = nI 243 := rfl
theorem li244 : (244 : Int32) = nI 244 := rfl
theorem li245 : (245 : Int32) = nI 245 := rfl
theorem li253 : (253 : Int32) = nI 253 := rfl
theorem li255 : (255 : Int32) = nI 255 := rfl
theorem li256 : (256 : Int32) = nI 256 := rfl
theorem li258 : (258 : Int32) = nI 258 := rfl
theorem li263 : (263 : Int32) = nI 263 := rfl
theorem li279 : (279 : Int32) = nI 279 := rfl
theorem li9999 : (9999 : Int32) = nI 9999 := rfl
theorem li1000000 : (1000000 : Int32) = nI 1000000 := rfl
theorem li2000000000 : (2000000000 : Int32) = nI 2000000000 := rfl

theorem og_t {α : Type} {x : Option α} : og true x = x := rfl
theorem ob_s {α β : Type} {a : α} {f : α → Option β} : ob (some a) f = f a := rfl
theorem os_l {α β γ : Type} {a : α} {f : α → Option γ} {g : β → Option γ} : os (some (.inl a)) f g = f a := rfl
theorem os_r {α β γ : Type} {a : β} {f : α → Option γ} {g : β → Option γ} : os (some (.inr a)) f g = g a := rfl
theorem ol {α β : Type} {e : α} {k : α → β} : olet e k = k e := rfl
theorem inB_t {i n : Nat} (h : i < n) (hn : n < 2 ^ 31) : inB (nI i) n = true := by
  simp only [inB, Bool.and_eq_true, Bool.not_eq_true', decide_eq_false_iff_not, decide_eq_true_eq]
  exact ⟨nI_pos (by omega), by rw [nI_clamp (by omega)]; exact h⟩
theorem og_nI {α : Type} {i n : Nat} {x : Option α} (h : i < n) (hn : n < 2 ^ 31) : og (inB (nI i) n) x = x := by rw [inB_t h hn]; rfl
theorem og_neN {α : Type} {i : Nat} {x : Option α} (h : 0 < i) (hi : i < 2 ^ 31) : og (neB (nI i)) x = x := by
  have : neB (nI i) = true := by simp [neB, nI_ne0 h hi]
  rw [this]; rfl
theorem nI_n4 {a : Nat} (h : a < 2 ^ 31) : ¬ nI a = -4 := fun e => by
  have := congrArg Int32.toInt e
  rw [nI_toInt h] at this
  have h4 : (-4 : Int32).toInt = -4 := by decide
  omega
theorem wI_1 (u : zS) (c i : Nat) (v : Int32) (a j : Nat) : (wI u c i v).1 a j = if a = c then (if j = i then v else u.1 a j) else u.1 a j := rfl
theorem wI_2 (u : zS) (c i : Nat) (v : Int32) : (wI u c i v).2 = u.2 := rfl
theorem wL_1 (u : zS) (c i : Nat) (v : Int64) : (wL u c i v).1 = u.1 := rfl
theorem wL_2 (u : zS) (c i : Nat) (v : Int64) (a j : Nat) : (wL u c i v).2 a j = if a = c then (if j = i then v else u.2 a j) else u.2 a j := rfl
theorem cpI_1 (u : zS) (a sp b dp n c j : Nat) : (cpI u a sp b dp n).1 c j = if c = b then (if dp ≤ j ∧ j < dp + n then u.1 a (sp + (j - dp)) else u.1 b j) else u.1 c j := rfl
theorem cpI_2 (u : zS) (a sp b dp n : Nat) : (cpI u a sp b dp n).2 = u.2 := rfl
theorem cpL_1 (u : zS) (a sp b dp n : Nat) : (cpL u a sp b dp n).1 = u.1 := rfl
theorem cpL_2 (u : zS) (a sp b dp n c j : Nat) : (cpL u a sp b dp n).2 c j = if c = b then (if dp ≤ j ∧ j < dp + n then u.2 a (sp + (j - dp)) else u.2 b j) else u.2 c j := rfl
/-- in, of longs that were ints, is within -/
theorem toInt64_toInt (x : Int32) : x.toInt64.toInt = x.toInt := by simp
theorem not_le_32 {x y : Int32} : ¬ y ≤ x ↔ x < y := by rw [fa_le, fa_lt]; omega
theorem in_within (x a b : Int32) : f_X6_in x.toInt64 a.toInt64 b.toInt64 = f_X5_within x a b := by
  unfold f_X6_in f_X5_within
  have h1 : lg_cmp x.toInt64 a.toInt64 < 0 ↔ x < a := by
    rw [← not_le_32, lg_cmp_ge, fa_wide_le, not_le_32]
  have h2 : 0 < lg_cmp x.toInt64 b.toInt64 ↔ b < x := by
    unfold lg_cmp
    rw [fa_lt, ← fa_wide_lt b x]
    by_cases c1 : x.toInt64 > b.toInt64
    · rw [if_pos c1]; exact ⟨fun _ => c1, fun _ => by decide⟩
    · rw [if_neg c1]
      refine ⟨fun h => ?_, fun h => absurd h c1⟩
      by_cases c2 : x.toInt64 = b.toInt64
      · rw [if_pos c2] at h; exact absurd h (by decide)
      · rw [if_neg c2] at h; exact absurd h (by decide)
  by_cases c1 : x < a
  · rw [if_pos (h1.mpr c1), if_pos c1]
  · rw [if_neg (fun q => c1 (h1.mp q)), if_neg c1]
    by_cases c2 : b < x
    · rw [if_pos (h2.mpr c2), if_pos c2]
    · rw [if_neg (fun q => c2 (h2.mp q)), if_neg c2]
