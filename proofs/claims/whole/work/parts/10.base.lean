/-! the pictures: which cells there are -/
def dscC : List zD := [.inl (5, [some 1, some 11, some 21, some 31, some 33, some 37, some 42, some 43, none]), .inl (1, [some 2, some 3, some 4, some 5, some 6, some 7, none, none, none, none, none]), .inr (false, 8), .inr (false, 5), .inr (false, 5), .inr (false, 40), .inr (false, 16), .inl (0, [some 8, some 9, some 10, none, none]), .inr (false, 64), .inr (false, 8), .inr (false, 8), .inl (1, [some 12, some 13, some 14, some 15, some 16, some 17, none, none, none, none, none]), .inr (false, 8), .inr (false, 5), .inr (false, 5), .inr (false, 40), .inr (false, 16), .inl (0, [some 18, some 19, some 20, none, none]), .inr (false, 64), .inr (false, 8), .inr (false, 8), .inl (1, [some 22, some 23, some 24, some 25, some 26, some 27, none, none, none, none, none]), .inr (false, 8), .inr (false, 5), .inr (false, 5), .inr (false, 40), .inr (false, 16), .inl (0, [some 28, some 29, some 30, none, none]), .inr (false, 64), .inr (false, 8), .inr (false, 8), .inl (4, [some 32, none, none]), .inr (false, 60), .inl (3, [some 34, some 35, some 36]), .inr (false, 4), .inr (false, 4), .inr (true, 96), .inl (2, [some 38, some 39, some 40, some 41, none]), .inr (false, 256), .inr (false, 256), .inr (false, 256), .inr (false, 256), .inr (false, 8), .inr (false, 8)]
def dscM : List zD := [.inl (6, [some 1, none, some 2, none, some 3, some 4, some 5, some 6, none, some 7, some 8, some 9, some 10, some 11, some 12, some 13]), .inr (false, 279), .inr (false, 60), .inr (true, 96), .inr (false, 4), .inr (false, 4), .inr (false, 8), .inr (false, 256), .inr (false, 256), .inr (false, 256), .inr (false, 64), .inr (true, 8), .inr (true, 8), .inr (true, 24)]
theorem dC_0 : dscC[0]? = some (.inl (5, [some 1, some 11, some 21, some 31, some 33, some 37, some 42, some 43, none])) := rfl
theorem dC_1 : dscC[1]? = some (.inl (1, [some 2, some 3, some 4, some 5, some 6, some 7, none, none, none, none, none])) := rfl
theorem dC_2 : dscC[2]? = some (.inr (false, 8)) := rfl
theorem dC_3 : dscC[3]? = some (.inr (false, 5)) := rfl
theorem dC_4 : dscC[4]? = some (.inr (false, 5)) := rfl
theorem dC_5 : dscC[5]? = some (.inr (false, 40)) := rfl
theorem dC_6 : dscC[6]? = some (.inr (false, 16)) := rfl
theorem dC_7 : dscC[7]? = some (.inl (0, [some 8, some 9, some 10, none, none])) := rfl
theorem dC_8 : dscC[8]? = some (.inr (false, 64)) := rfl
theorem dC_9 : dscC[9]? = some (.inr (false, 8)) := rfl
theorem dC_10 : dscC[10]? = some (.inr (false, 8)) := rfl
theorem dC_11 : dscC[11]? = some (.inl (1, [some 12, some 13, some 14, some 15, some 16, some 17, none, none, none, none, none])) := rfl
theorem dC_12 : dscC[12]? = some (.inr (false, 8)) := rfl
theorem dC_13 : dscC[13]? = some (.inr (false, 5)) := rfl
theorem dC_14 : dscC[14]? = some (.inr (false, 5)) := rfl
theorem dC_15 : dscC[15]? = some (.inr (false, 40)) := rfl
theorem dC_16 : dscC[16]? = some (.inr (false, 16)) := rfl
theorem dC_17 : dscC[17]? = some (.inl (0, [some 18, some 19, some 20, none, none])) := rfl
theorem dC_18 : dscC[18]? = some (.inr (false, 64)) := rfl
theorem dC_19 : dscC[19]? = some (.inr (false, 8)) := rfl
theorem dC_20 : dscC[20]? = some (.inr (false, 8)) := rfl
theorem dC_21 : dscC[21]? = some (.inl (1, [some 22, some 23, some 24, some 25, some 26, some 27, none, none, none, none, none])) := rfl
theorem dC_22 : dscC[22]? = some (.inr (false, 8)) := rfl
theorem dC_23 : dscC[23]? = some (.inr (false, 5)) := rfl
theorem dC_24 : dscC[24]? = some (.inr (false, 5)) := rfl
theorem dC_25 : dscC[25]? = some (.inr (false, 40)) := rfl
theorem dC_26 : dscC[26]? = some (.inr (false, 16)) := rfl
theorem dC_27 : dscC[27]? = some (.inl (0, [some 28, some 29, some 30, none, none])) := rfl
theorem dC_28 : dscC[28]? = some (.inr (false, 64)) := rfl
theorem dC_29 : dscC[29]? = some (.inr (false, 8)) := rfl
theorem dC_30 : dscC[30]? = some (.inr (false, 8)) := rfl
theorem dC_31 : dscC[31]? = some (.inl (4, [some 32, none, none])) := rfl
theorem dC_32 : dscC[32]? = some (.inr (false, 60)) := rfl
theorem dC_33 : dscC[33]? = some (.inl (3, [some 34, some 35, some 36])) := rfl
theorem dC_34 : dscC[34]? = some (.inr (false, 4)) := rfl
theorem dC_35 : dscC[35]? = some (.inr (false, 4)) := rfl
theorem dC_36 : dscC[36]? = some (.inr (true, 96)) := rfl
theorem dC_37 : dscC[37]? = some (.inl (2, [some 38, some 39, some 40, some 41, none])) := rfl
theorem dC_38 : dscC[38]? = some (.inr (false, 256)) := rfl
theorem dC_39 : dscC[39]? = some (.inr (false, 256)) := rfl
theorem dC_40 : dscC[40]? = some (.inr (false, 256)) := rfl
theorem dC_41 : dscC[41]? = some (.inr (false, 256)) := rfl
theorem dC_42 : dscC[42]? = some (.inr (false, 8)) := rfl
theorem dC_43 : dscC[43]? = some (.inr (false, 8)) := rfl
theorem dM_0 : dscM[0]? = some (.inl (6, [some 1, none, some 2, none, some 3, some 4, some 5, some 6, none, some 7, some 8, some 9, some 10, some 11, some 12, some 13])) := rfl
theorem dM_1 : dscM[1]? = some (.inr (false, 279)) := rfl
theorem dM_2 : dscM[2]? = some (.inr (false, 60)) := rfl
theorem dM_3 : dscM[3]? = some (.inr (true, 96)) := rfl
theorem dM_4 : dscM[4]? = some (.inr (false, 4)) := rfl
theorem dM_5 : dscM[5]? = some (.inr (false, 4)) := rfl
theorem dM_6 : dscM[6]? = some (.inr (false, 8)) := rfl
theorem dM_7 : dscM[7]? = some (.inr (false, 256)) := rfl
theorem dM_8 : dscM[8]? = some (.inr (false, 256)) := rfl
theorem dM_9 : dscM[9]? = some (.inr (false, 256)) := rfl
theorem dM_10 : dscM[10]? = some (.inr (false, 64)) := rfl
theorem dM_11 : dscM[11]? = some (.inr (true, 8)) := rfl
theorem dM_12 : dscM[12]? = some (.inr (true, 8)) := rfl
theorem dM_13 : dscM[13]? = some (.inr (true, 24)) := rfl
def isR (b : Nat) : Prop := b = 1 ∨ b = 11 ∨ b = 21
theorem isR_1 : isR 1 := Or.inl rfl
theorem isR_11 : isR 11 := Or.inr (Or.inl rfl)
theorem isR_21 : isR 21 := Or.inr (Or.inr rfl)
theorem dR_0 {b : Nat} (h : isR b) : dscC[b]? = some (.inl (1, [some (b + 1), some (b + 2), some (b + 3), some (b + 4), some (b + 5), some (b + 6), none, none, none, none, none])) := by rcases h with rfl | rfl | rfl <;> rfl
theorem dR_1 {b : Nat} (h : isR b) : dscC[b + 1]? = some (.inr (false, 8)) := by rcases h with rfl | rfl | rfl <;> rfl
theorem dR_2 {b : Nat} (h : isR b) : dscC[b + 2]? = some (.inr (false, 5)) := by rcases h with rfl | rfl | rfl <;> rfl
theorem dR_3 {b : Nat} (h : isR b) : dscC[b + 3]? = some (.inr (false, 5)) := by rcases h with rfl | rfl | rfl <;> rfl
theorem dR_4 {b : Nat} (h : isR b) : dscC[b + 4]? = some (.inr (false, 40)) := by rcases h with rfl | rfl | rfl <;> rfl
theorem dR_5 {b : Nat} (h : isR b) : dscC[b + 5]? = some (.inr (false, 16)) := by rcases h with rfl | rfl | rfl <;> rfl
theorem dR_6 {b : Nat} (h : isR b) : dscC[b + 6]? = some (.inl (0, [some (b + 7), some (b + 8), some (b + 9), none, none])) := by rcases h with rfl | rfl | rfl <;> rfl
theorem dR_7 {b : Nat} (h : isR b) : dscC[b + 7]? = some (.inr (false, 64)) := by rcases h with rfl | rfl | rfl <;> rfl
theorem dR_8 {b : Nat} (h : isR b) : dscC[b + 8]? = some (.inr (false, 8)) := by rcases h with rfl | rfl | rfl <;> rfl
theorem dR_9 {b : Nat} (h : isR b) : dscC[b + 9]? = some (.inr (false, 8)) := by rcases h with rfl | rfl | rfl <;> rfl
def olet {α β : Type} (e : α) (k : α → β) : β := k e
theorem olet_at {α β : Type} {e y : α} {k : α → β} {z : β} (he : y = e) (h : olet e k = z) : k y = z := by rw [he]; exact h
theorem ite_t {α : Type} {c : Prop} [Decidable c] {a b z : α} (hc : c) (h : (if c then a else b) = z) : a = z := by rw [if_pos hc] at h; exact h
theorem ite_f {α : Type} {c : Prop} [Decidable c] {a b z : α} (hc : ¬ c) (h : (if c then a else b) = z) : b = z := by rw [if_neg hc] at h; exact h
def os {α β γ : Type} (x : Option (α ⊕ β)) (f : α → Option γ) (g : β → Option γ) : Option γ := match x with
  | none => none
  | some (.inl a) => f a
  | some (.inr b) => g b
theorem os_some {α β γ : Type} {x : Option (α ⊕ β)} {f : α → Option γ} {g : β → Option γ} {y : γ} (h : os x f g = some y) : (∃ a, x = some (.inl a) ∧ f a = some y) ∨ (∃ b, x = some (.inr b) ∧ g b = some y) := by
  match x, h with
  | some (.inl a), h => exact Or.inl ⟨a, rfl, h⟩
  | some (.inr b), h => exact Or.inr ⟨b, rfl, h⟩
section
variable {ds : List zD} {l : Launch} {R : Room} {G : zG} {X : zX} {K : Option Value → zS → Prop} {u : zS} {pc : Nat} {lv : List (Nat × Value)} {st : List Value} {cc : ByteArray} {nL : Nat} {own : String} {ret : Option FieldType}
theorem r_topi {x : Int32} (k : ∀ y : Int32, y = x → zW ds l R G X K u pc lv (.int y :: st)) : zW ds l R G X K u pc lv (.int x :: st) := k x rfl
theorem r_topl {x : Int64} (k : ∀ y : Int64, y = x → zW ds l R G X K u pc lv (.long y :: st)) : zW ds l R G X K u pc lv (.long x :: st) := k x rfl
theorem r_tops (k : ∀ w : zS, w = u → zW ds l R G X K w pc lv st) : zW ds l R G X K u pc lv st := k u rfl
theorem r_ialdK (hC : zC G X cc nL own ret) {c n j : Nat} {i : Int32} (hr : ds[c]? = some (.inr (false, n))) (hin : vp_in i n ∧ i.toNatClampNeg = j) (hd : decode cc pc = .ok (.iaload, 1)) (kk : zW ds l R G X K u (pc + 1) lv (.int (u.1 c j) :: st)) : zW ds l R G X K u pc lv (.int i :: .ref (G.1 c) :: st) := r_iald hC hr hin.1 hd (by rw [hin.2]; exact kk)
theorem r_iastK (hC : zC G X cc nL own ret) {c n j : Nat} {i v : Int32} (hr : ds[c]? = some (.inr (false, n))) (hin : vp_in i n ∧ i.toNatClampNeg = j) (hd : decode cc pc = .ok (.iastore, 1)) (kk : zW ds l R G X K (wI u c j v) (pc + 1) lv st) : zW ds l R G X K u pc lv (.int v :: .int i :: .ref (G.1 c) :: st) := r_iast hC hr hin.1 hd (by rw [hin.2]; exact kk)
theorem inK {i : Int32} {n j : Nat} (h : (inB i n && decide (i.toNatClampNeg = j)) = true) : vp_in i n ∧ i.toNatClampNeg = j := by
  simp only [Bool.and_eq_true, decide_eq_true_eq] at h
  exact ⟨inB_in h.1, h.2⟩
theorem r_cvi (hC : zC G X cc nL own ret) {y : MethodName} {bytes : ByteArray} {maxL n idx c ci : Nat} {yr : Option FieldType} {rm : Room} {As rest : List Value} {rv : Int32} {w : zS} {fs : List zF}
    (hM : zM l ds y bytes maxL yr rm G (.ref (G.1 c) :: As) u (some (.int rv)) w) (hY : zYv y bytes maxL yr n ci) (hL : Cond.methodLink own idx y ∈ tblG) (hr : ds[c]? = some (.inl (ci, fs))) (hR : zRm rm R maxL) (hn : As.length = n) (hst : st = As.reverse ++ .ref (G.1 c) :: rest) (hw : (rest.map fun v => v.category).sum ≤ 8) (hd : decode cc pc = .ok (.invokevirtual idx, 3)) (kk : zW ds l R G X K w (pc + 3) lv (.int rv :: rest)) : zW ds l R G X K u pc lv st := r_cv hC hM hY hL hr hR hn hst hw hd kk
theorem r_csi (hC : zC G X cc nL own ret) {y : MethodName} {bytes : ByteArray} {maxL n idx : Nat} {yr : Option FieldType} {rm : Room} {As rest : List Value} {rv : Int32} {w : zS}
    (hM : zM l ds y bytes maxL yr rm G As u (some (.int rv)) w) (hY : zYs y bytes maxL yr n) (hL : Cond.methodLink own idx y ∈ tblG) (hR : zRm rm R maxL) (hn : As.length = n) (hst : st = As.reverse ++ rest) (hw : (rest.map fun v => v.category).sum ≤ 8) (hd : decode cc pc = .ok (.invokestatic idx, 3)) (kk : zW ds l R G X K w (pc + 3) lv (.int rv :: rest)) : zW ds l R G X K u pc lv st := r_cs hC hM hY hL hR hn hst hw hd kk
theorem r_csni (hC : zC G X cc nL own ret) {y : MethodName} {bytes : ByteArray} {maxL n idx : Nat} {yr : Option FieldType} {rm : Room} {As rest : List Value} {rv : Int32} {w : zS} {host : String}
    (hM : zM l ds y bytes maxL yr rm G As u (some (.int rv)) w) (hY : zYs y bytes maxL yr n) (hL : Cond.methodLinkNest own idx y host ∈ zNst) (hR : zRm rm R maxL) (hn : As.length = n) (hst : st = As.reverse ++ rest) (hw : (rest.map fun v => v.category).sum ≤ 8) (hd : decode cc pc = .ok (.invokestatic idx, 3)) (kk : zW ds l R G X K w (pc + 3) lv (.int rv :: rest)) : zW ds l R G X K u pc lv st := r_csn hC hM hY hL hR hn hst hw hd kk
theorem r_cvl (hC : zC G X cc nL own ret) {y : MethodName} {bytes : ByteArray} {maxL n idx c ci : Nat} {yr : Option FieldType} {rm : Room} {As rest : List Value} {rv : Int64} {w : zS} {fs : List zF}
    (hM : zM l ds y bytes maxL yr rm G (.ref (G.1 c) :: As) u (some (.long rv)) w) (hY : zYv y bytes maxL yr n ci) (hL : Cond.methodLink own idx y ∈ tblG) (hr : ds[c]? = some (.inl (ci, fs))) (hR : zRm rm R maxL) (hn : As.length = n) (hst : st = As.reverse ++ .ref (G.1 c) :: rest) (hw : (rest.map fun v => v.category).sum ≤ 8) (hd : decode cc pc = .ok (.invokevirtual idx, 3)) (kk : zW ds l R G X K w (pc + 3) lv (.long rv :: rest)) : zW ds l R G X K u pc lv st := r_cv hC hM hY hL hr hR hn hst hw hd kk
theorem r_csl (hC : zC G X cc nL own ret) {y : MethodName} {bytes : ByteArray} {maxL n idx : Nat} {yr : Option FieldType} {rm : Room} {As rest : List Value} {rv : Int64} {w : zS}
    (hM : zM l ds y bytes maxL yr rm G As u (some (.long rv)) w) (hY : zYs y bytes maxL yr n) (hL : Cond.methodLink own idx y ∈ tblG) (hR : zRm rm R maxL) (hn : As.length = n) (hst : st = As.reverse ++ rest) (hw : (rest.map fun v => v.category).sum ≤ 8) (hd : decode cc pc = .ok (.invokestatic idx, 3)) (kk : zW ds l R G X K w (pc + 3) lv (.long rv :: rest)) : zW ds l R G X K u pc lv st := r_cs hC hM hY hL hR hn hst hw hd kk
theorem r_csnl (hC : zC G X cc nL own ret) {y : MethodName} {bytes : ByteArray} {maxL n idx : Nat} {yr : Option FieldType} {rm : Room} {As rest : List Value} {rv : Int64} {w : zS} {host : String}
    (hM : zM l ds y bytes maxL yr rm G As u (some (.long rv)) w) (hY : zYs y bytes maxL yr n) (hL : Cond.methodLinkNest own idx y host ∈ zNst) (hR : zRm rm R maxL) (hn : As.length = n) (hst : st = As.reverse ++ rest) (hw : (rest.map fun v => v.category).sum ≤ 8) (hd : decode cc pc = .ok (.invokestatic idx, 3)) (kk : zW ds l R G X K w (pc + 3) lv (.long rv :: rest)) : zW ds l R G X K u pc lv st := r_csn hC hM hY hL hR hn hst hw hd kk
theorem r_cvv (hC : zC G X cc nL own ret) {y : MethodName} {bytes : ByteArray} {maxL n idx c ci : Nat} {yr : Option FieldType} {rm : Room} {As rest : List Value}  {w : zS} {fs : List zF}
    (hM : zM l ds y bytes maxL yr rm G (.ref (G.1 c) :: As) u none w) (hY : zYv y bytes maxL yr n ci) (hL : Cond.methodLink own idx y ∈ tblG) (hr : ds[c]? = some (.inl (ci, fs))) (hR : zRm rm R maxL) (hn : As.length = n) (hst : st = As.reverse ++ .ref (G.1 c) :: rest) (hw : (rest.map fun v => v.category).sum ≤ 8) (hd : decode cc pc = .ok (.invokevirtual idx, 3)) (kk : zW ds l R G X K w (pc + 3) lv (rest)) : zW ds l R G X K u pc lv st := r_cv hC hM hY hL hr hR hn hst hw hd kk
theorem r_csv (hC : zC G X cc nL own ret) {y : MethodName} {bytes : ByteArray} {maxL n idx : Nat} {yr : Option FieldType} {rm : Room} {As rest : List Value}  {w : zS}
    (hM : zM l ds y bytes maxL yr rm G As u none w) (hY : zYs y bytes maxL yr n) (hL : Cond.methodLink own idx y ∈ tblG) (hR : zRm rm R maxL) (hn : As.length = n) (hst : st = As.reverse ++ rest) (hw : (rest.map fun v => v.category).sum ≤ 8) (hd : decode cc pc = .ok (.invokestatic idx, 3)) (kk : zW ds l R G X K w (pc + 3) lv (rest)) : zW ds l R G X K u pc lv st := r_cs hC hM hY hL hR hn hst hw hd kk
theorem r_csnv (hC : zC G X cc nL own ret) {y : MethodName} {bytes : ByteArray} {maxL n idx : Nat} {yr : Option FieldType} {rm : Room} {As rest : List Value}  {w : zS} {host : String}
    (hM : zM l ds y bytes maxL yr rm G As u none w) (hY : zYs y bytes maxL yr n) (hL : Cond.methodLinkNest own idx y host ∈ zNst) (hR : zRm rm R maxL) (hn : As.length = n) (hst : st = As.reverse ++ rest) (hw : (rest.map fun v => v.category).sum ≤ 8) (hd : decode cc pc = .ok (.invokestatic idx, 3)) (kk : zW ds l R G X K w (pc + 3) lv (rest)) : zW ds l R G X K u pc lv st := r_csn hC hM hY hL hR hn hst hw hd kk
theorem r_mmin (hC : zC G X cc nL own ret) {idx : Nat} {x y : Int32} (hL : Cond.methodLink own idx Lib.Math.min.name ∈ tblG) (hY : Cond.static Lib.Math.min.name ∈ tblG ∧ Cond.initialized "java/lang/Math" ∈ tblG ∧ Cond.code Lib.Math.min.name Lib.Math.min.code 2 (some .int) ∈ tblG) (hR : 1 ≤ R.frames ∧ (st.map fun v => v.category).sum + 13 ≤ R.locals) (hd : decode cc pc = .ok (.invokestatic idx, 3)) (kk : zW ds l R G X K u (pc + 3) lv (.int (if y < x then y else x) :: st)) : zW ds l R G X K u pc lv (.int y :: .int x :: st) := fun H locs ls h1 h2 h3 h4 =>
  va_mmin hC.1 hC.2.1 h4.1.symm hC.2.2.2.1 (hC.2.2.2.2.1 _ hL) (hC.2.2.2.2.1 _ hY.1) (hC.2.2.2.2.1 _ hY.2.1) (hC.2.2.2.2.1 _ hY.2.2) hR.1 hR.2 (Nat.zero_le _) (Nat.zero_le _) hd (kk H locs ls h1 h2 h3 h4)
theorem r_mmax (hC : zC G X cc nL own ret) {idx : Nat} {x y : Int32} (hL : Cond.methodLink own idx Lib.Math.max.name ∈ tblG) (hY : Cond.static Lib.Math.max.name ∈ tblG ∧ Cond.initialized "java/lang/Math" ∈ tblG ∧ Cond.code Lib.Math.max.name Lib.Math.max.code 2 (some .int) ∈ tblG) (hR : 1 ≤ R.frames ∧ (st.map fun v => v.category).sum + 13 ≤ R.locals) (hd : decode cc pc = .ok (.invokestatic idx, 3)) (kk : zW ds l R G X K u (pc + 3) lv (.int (if x < y then y else x) :: st)) : zW ds l R G X K u pc lv (.int y :: .int x :: st) := fun H locs ls h1 h2 h3 h4 =>
  va_mmax hC.1 hC.2.1 h4.1.symm hC.2.2.2.1 (hC.2.2.2.2.1 _ hL) (hC.2.2.2.2.1 _ hY.1) (hC.2.2.2.2.1 _ hY.2.1) (hC.2.2.2.2.1 _ hY.2.2) hR.1 hR.2 (Nat.zero_le _) (Nat.zero_le _) hd (kk H locs ls h1 h2 h3 h4)
end
theorem ym_min : Cond.static Lib.Math.min.name ∈ tblG ∧ Cond.initialized "java/lang/Math" ∈ tblG ∧ Cond.code Lib.Math.min.name Lib.Math.min.code 2 (some .int) ∈ tblG := ⟨tbl1 403 (by decide +kernel) rfl, in_RJ9, tbl1 404 (by decide +kernel) rfl⟩
theorem mm_RX0_43 : Cond.methodLink RX0 43 Lib.Math.min.name ∈ tblG := tbl1 402 (by decide +kernel) rfl
theorem mm_RX5_246 : Cond.methodLink RX5 246 Lib.Math.min.name ∈ tblG := tbl1 583 (by decide +kernel) rfl
theorem ym_max : Cond.static Lib.Math.max.name ∈ tblG ∧ Cond.initialized "java/lang/Math" ∈ tblG ∧ Cond.code Lib.Math.max.name Lib.Math.max.code 2 (some .int) ∈ tblG := ⟨tbl1 585 (by decide +kernel) rfl, in_RJ9, tbl1 586 (by decide +kernel) rfl⟩
theorem mm_RX5_251 : Cond.methodLink RX5 251 Lib.Math.max.name ∈ tblG := tbl1 584 (by decide +kernel) rfl
theorem mn_RX1_71 : Cond.methodLinkNest RX1 71 yX5_bitOf RX5 ∈ zNst := by decide +kernel
theorem mn_RX1_67 : Cond.methodLinkNest RX1 67 yX5_lead RX5 ∈ zNst := by decide +kernel
theorem mn_RX1_86 : Cond.methodLinkNest RX1 86 yX5_greatestCommon RX5 ∈ zNst := by decide +kernel
theorem mn_RX1_95 : Cond.methodLinkNest RX1 95 yX5_leftBy8 RX5 ∈ zNst := by decide +kernel
theorem mn_RX1_75 : Cond.methodLinkNest RX1 75 yX5_holds RX5 ∈ zNst := by decide +kernel
theorem mn_RX2_41 : Cond.methodLinkNest RX2 41 yX5_span RX5 ∈ zNst := by decide +kernel
