/-! THE LAYER: a picture of the cells by numbers (zpic), a judgement over it (zW), a row an instruction -/
def tblG : List Cond := lw_tbl.filter goodWord
theorem tbl_mem {w : Cond} (h : w ∈ lw_tbl) (g : goodWord w = true) : w ∈ tblG := List.mem_filter.mpr ⟨h, g⟩
theorem tblG_good {w : Cond} (h : w ∈ tblG) : (w.onTables && w.keeps) = true ∨ ∃ ty, w = .arrayClass ty := good_of_word (List.mem_filter.mp h).2
theorem tblG_in {y : MethodName} {bytes : ByteArray} {maxL : Nat} {ret : Option FieldType} (h : Cond.code y bytes maxL ret ∈ tblG) : GoodIn tblG (Cond.code y bytes maxL ret :: tblG) := fun w hw => by
  rcases List.mem_cons.mp hw with rfl | hw
  · exact ⟨h, tblG_good h⟩
  · exact ⟨hw, tblG_good hw⟩
/-- the state: ints by cell and place, longs by cell and place -/
abbrev zS : Type := (Nat → Nat → Int32) × (Nat → Nat → Int64)
abbrev zF : Type := Option Nat
abbrev zD : Type := (Nat × List zF) ⊕ (Bool × Nat)
abbrev zG : Type := (Nat → Nat) × ClassId × ClassId × va_G
def zfl (ad : Nat → Nat) (u : zS) (c : Nat) : List zF → Nat → List Value
  | [], _ => []
  | some r :: t, i => .ref (ad r) :: zfl ad u c t (i + 1)
  | none :: t, i => .int (u.1 c i) :: zfl ad u c t (i + 1)
def zce (G : zG) (u : zS) (c : Nat) : zD → va_E
  | .inl (k, fs) => .inr (k, zfl G.1 u c fs 0)
  | .inr (false, n) => .inl (G.2.1, n, .inl (u.1 c))
  | .inr (true, n) => .inl (G.2.2.1, n, .inr (.inl (u.2 c)))
def zpc (G : zG) (u : zS) : List zD → Nat → va_W
  | [], _ => []
  | d :: t, c => (G.1 c, zce G u c d) :: zpc G u t (c + 1)
def zpic (ds : List zD) (G : zG) (u : zS) : va_W := zpc G u ds 0
def wI (u : zS) (c i : Nat) (v : Int32) : zS := (fun a j => if a = c then (if j = i then v else u.1 a j) else u.1 a j, u.2)
def wL (u : zS) (c i : Nat) (v : Int64) : zS := (u.1, fun a j => if a = c then (if j = i then v else u.2 a j) else u.2 a j)
def cpI (u : zS) (a sp b dp n : Nat) : zS := (fun c j => if c = b then va_cpy (u.1 a) (u.1 b) sp dp n j else u.1 c j, u.2)
def cpL (u : zS) (a sp b dp n : Nat) : zS := (u.1, fun c j => if c = b then va_cpy (u.2 a) (u.2 b) sp dp n j else u.2 c j)
theorem zfl_congr {ad : Nat → Nat} {u w : zS} {c : Nat} (h : w.1 c = u.1 c) : ∀ (fs : List zF) (i : Nat), zfl ad w c fs i = zfl ad u c fs i
  | [], _ => rfl
  | some r :: t, i => by simp only [zfl]; rw [zfl_congr h t]
  | none :: t, i => by simp only [zfl]; rw [zfl_congr h t, h]
theorem zce_congr {G : zG} {u w : zS} {c : Nat} (h1 : w.1 c = u.1 c) (h2 : w.2 c = u.2 c) (d : zD) : zce G w c d = zce G u c d := by
  match d with
  | .inl (k, fs) => simp only [zce]; rw [zfl_congr h1]
  | .inr (false, n) => simp only [zce]; rw [h1]
  | .inr (true, n) => simp only [zce]; rw [h2]
theorem zpc_get {G : zG} {u : zS} : ∀ (ds : List zD) (c k : Nat) (d : zD), ds[k]? = some d → (zpc G u ds c)[k]? = some (G.1 (c + k), zce G u (c + k) d)
  | [], _, _, _, h => by simp at h
  | e :: t, c, 0, d, h => by
    have : e = d := by simpa using h
    subst this
    rfl
  | e :: t, c, k + 1, d, h => by
    have h2 : t[k]? = some d := by simpa using h
    have := zpc_get (G := G) (u := u) t (c + 1) k d h2
    rw [show c + (k + 1) = c + 1 + k by omega]
    simpa [zpc] using this
theorem zpc_congr {G : zG} {u w : zS} : ∀ (ds : List zD) (c : Nat), (∀ a, c ≤ a → w.1 a = u.1 a ∧ w.2 a = u.2 a) → zpc G w ds c = zpc G u ds c
  | [], _, _ => rfl
  | d :: t, c, h => by
    simp only [zpc]
    rw [zce_congr (h c (Nat.le_refl c)).1 (h c (Nat.le_refl c)).2, zpc_congr t (c + 1) (fun a ha => h a (by omega))]
theorem zpc_set {G : zG} {u w : zS} {e : va_E} : ∀ (ds : List zD) (c k : Nat) (d : zD), ds[k]? = some d → (∀ a, a ≠ c + k → w.1 a = u.1 a ∧ w.2 a = u.2 a) → zce G w (c + k) d = e → (zpc G u ds c).set k (G.1 (c + k), e) = zpc G w ds c
  | [], _, _, _, h, _, _ => by simp at h
  | x :: t, c, 0, d, h, hn, he => by
    have : x = d := by simpa using h
    subst this
    simp only [zpc, List.set_cons_zero]
    rw [zpc_congr (u := u) (w := w) t (c + 1) (fun a ha => hn a (by omega))]
    rw [← he]
    rfl
  | x :: t, c, k + 1, d, h, hn, he => by
    have h2 : t[k]? = some d := by simpa using h
    have e1 : c + (k + 1) = c + 1 + k := by omega
    rw [e1] at hn he ⊢
    simp only [zpc, List.set_cons_succ]
    rw [zpc_set t (c + 1) k d h2 hn he, zce_congr (hn c (by omega)).1 (hn c (by omega)).2]
theorem zpic_get {ds : List zD} {G : zG} {u : zS} {c : Nat} {d : zD} (h : ds[c]? = some d) : (zpic ds G u)[c]? = some (G.1 c, zce G u c d) := by
  have := zpc_get (G := G) (u := u) ds 0 c d h
  rwa [Nat.zero_add] at this
theorem zpic_set {ds : List zD} {G : zG} {u w : zS} {e : va_E} {c : Nat} {d : zD} (h : ds[c]? = some d) (hn : ∀ a, a ≠ c → w.1 a = u.1 a ∧ w.2 a = u.2 a) (he : zce G w c d = e) : (zpic ds G u).set c (G.1 c, e) = zpic ds G w := by
  have := zpc_set (G := G) (u := u) (w := w) (e := e) ds 0 c d h (by rw [Nat.zero_add]; exact hn) (by rw [Nat.zero_add]; exact he)
  rwa [Nat.zero_add] at this
theorem zfl_int {ad : Nat → Nat} {u : zS} {c : Nat} : ∀ (fs : List zF) (i k : Nat), fs[k]? = some none → (zfl ad u c fs i)[k]? = some (.int (u.1 c (i + k)))
  | [], _, _, h => by simp at h
  | x :: t, i, 0, h => by
    have : x = none := by simpa using h
    subst this
    rfl
  | x :: t, i, k + 1, h => by
    have h2 : t[k]? = some none := by simpa using h
    have := zfl_int (ad := ad) (u := u) (c := c) t (i + 1) k h2
    rw [show i + (k + 1) = i + 1 + k by omega]
    cases x <;> simpa [zfl] using this
theorem zfl_ref {ad : Nat → Nat} {u : zS} {c r : Nat} : ∀ (fs : List zF) (i k : Nat), fs[k]? = some (some r) → (zfl ad u c fs i)[k]? = some (.ref (ad r))
  | [], _, _, h => by simp at h
  | x :: t, i, 0, h => by
    have : x = some r := by simpa using h
    subst this
    rfl
  | x :: t, i, k + 1, h => by
    have h2 : t[k]? = some (some r) := by simpa using h
    have := zfl_ref (ad := ad) (u := u) (c := c) t (i + 1) k h2
    cases x <;> simpa [zfl] using this
theorem zfl_len {ad : Nat → Nat} {u : zS} {c : Nat} : ∀ (fs : List zF) (i : Nat), (zfl ad u c fs i).length = fs.length
  | [], _ => rfl
  | x :: t, i => by cases x <;> simp [zfl, zfl_len t]
theorem wI_ne {u : zS} {c i a : Nat} {v : Int32} (h : a ≠ c) : (wI u c i v).1 a = u.1 a := by funext j; simp [wI, h]
theorem wI_at {u : zS} {c i : Nat} {v : Int32} : (wI u c i v).1 c = upd (u.1 c) i v := by funext j; simp [wI, upd]
theorem wL_ne {u : zS} {c i a : Nat} {v : Int64} (h : a ≠ c) : (wL u c i v).2 a = u.2 a := by funext j; simp [wL, h]
theorem wL_at {u : zS} {c i : Nat} {v : Int64} : (wL u c i v).2 c = vp_updL (u.2 c) i v := by funext j; simp [wL, vp_updL]
theorem zfl_lt {ad : Nat → Nat} {u : zS} {c k : Nat} {v : Int32} : ∀ (fs : List zF) (i : Nat), k < i → zfl ad (wI u c k v) c fs i = zfl ad u c fs i
  | [], _, _ => rfl
  | some r :: t, i, h => by simp only [zfl]; rw [zfl_lt t (i + 1) (by omega)]
  | none :: t, i, h => by
    simp only [zfl]
    rw [zfl_lt t (i + 1) (by omega), show (wI u c k v).1 c i = u.1 c i by simp [wI, show i ≠ k by omega]]
theorem zfl_set {ad : Nat → Nat} {u : zS} {c : Nat} {v : Int32} : ∀ (fs : List zF) (i k : Nat), fs[k]? = some none → (zfl ad u c fs i).set k (.int v) = zfl ad (wI u c (i + k) v) c fs i
  | [], _, _, h => by simp at h
  | x :: t, i, 0, h => by
    have : x = none := by simpa using h
    subst this
    simp only [zfl, List.set_cons_zero, Nat.add_zero]
    rw [zfl_lt t (i + 1) (by omega), show (wI u c i v).1 c i = v by simp [wI]]
  | x :: t, i, k + 1, h => by
    have h2 : t[k]? = some none := by simpa using h
    have e := zfl_set (ad := ad) (u := u) (c := c) (v := v) t (i + 1) k h2
    rw [show i + (k + 1) = i + 1 + k by omega]
    cases x with
    | none =>
      simp only [zfl, List.set_cons_succ]
      rw [e, show (wI u c (i + 1 + k) v).1 c i = u.1 c i by simp [wI, show i ≠ i + 1 + k by omega]]
    | some r => simp only [zfl, List.set_cons_succ]; rw [e]
/-- the calls between nest mates that the class makes -/
def zNst : List Cond := [.methodLinkNest RX1 67 yX5_lead RX5, .methodLinkNest RX1 71 yX5_bitOf RX5, .methodLinkNest RX1 75 yX5_holds RX5, .methodLinkNest RX1 86 yX5_greatestCommon RX5, .methodLinkNest RX1 95 yX5_leftBy8 RX5, .methodLinkNest RX2 41 yX5_span RX5]
theorem zNst_in : ∀ w ∈ zNst, w ∈ lw_tbl := by decide +kernel
theorem zNst_warm {s U : State} (hW : s.WarmedH U.vm) (h : ∀ w ∈ zNst, va_Nw w s) : ∀ w ∈ zNst, va_Nw w U := by
  intro w hw
  have h0 := h w hw
  simp only [zNst, List.mem_cons, List.not_mem_nil, or_false] at hw
  rcases hw with rfl | rfl | rfl | rfl | rfl | rfl <;> exact va_Nw.warmM hW h0
theorem zNst_same {s U : State} (hW : s.vm = U.vm) (h : ∀ w ∈ zNst, va_Nw w s) : ∀ w ∈ zNst, va_Nw w U := by
  intro w hw
  have h0 := h w hw
  simp only [zNst, List.mem_cons, List.not_mem_nil, or_false] at hw
  rcases hw with rfl | rfl | rfl | rfl | rfl | rfl <;> exact va_Nw.same rfl hW h0
/-- what is fixed over a method's walk -/
abbrev zX : Type := (Program × Env × State) × (MethodId × Array Value × List Frame × Method × Code) × (Nat → Prop)
abbrev zty (G : zG) : List (ClassId × FieldType) := [(G.2.1, .int), (G.2.2.1, .long)]
def zC (G : zG) (X : zX) (cc : ByteArray) (nL : Nat) (own : String) (ret : Option FieldType) : Prop :=
  X.1.1.tables.exec = Jvm.exec ∧ X.2.1.2.2.2.2.code = cc ∧ X.2.1.2.2.2.2.maxLocals = nL ∧ X.1.2.2.vm.findClass own = some X.2.1.1.cls ∧ (∀ w ∈ tblG, w.before X.2.1.2.1 X.1.2.2 = true) ∧ va_K G.2.2.2 vwCl (zty G) X.1.2.2 ∧ (∀ q, X.1.2.2.heap.size ≤ q → X.2.2 q) ∧ X.2.1.2.2.2.1.sig.returnType = ret ∧ X.2.1.2.2.2.1.locks = false ∧ (∀ w ∈ zNst, va_Nw w X.1.2.2)
def zWd (ds : List zD) (G : zG) (A : Nat → Prop) (u : zS) (t : State) : Prop := va_P G.2.2.2 vwCl (zpic ds G u) t.heap ∧ va_K G.2.2.2 vwCl (zty G) t ∧ va_D A (zpic ds G u)
def zQc (ds : List zD) (G : zG) (A : Nat → Prop) (K : Option Value → zS → Prop) : Array Value → State → Outcome → State → Prop := fun _ st oc t => (∃ (v : Option Value) (u : zS), oc = .returned v ∧ K v u ∧ zWd ds G A u t) ∧ va_F A st t
def zW (ds : List zD) (l : Launch) (R : Room) (G : zG) (X : zX) (K : Option Value → zS → Prop) (u : zS) (pc : Nat) (lv : List (Nat × Value)) (st : List Value) : Prop :=
  ∀ (H : Heap) (locs : List Loc) (ls : Array Slot), va_P G.2.2.2 vwCl (zpic ds G u) H → va_D X.2.2 (zpic ds G u) → va_S X.2.2 X.1.2.2.heap H locs → lv_has ls X.2.1.2.2.2.2.maxLocals lv →
    W X.1.1 l X.1.2.1 R X.1.2.2 X.2.1.1 X.2.1.2.1 X.2.1.2.2.1 X.2.1.2.2.2.1 X.2.1.2.2.2.2 H locs 0 0 (MQ X.2.1.2.2.1 (zQc ds G X.2.2 K) X.2.1.2.1 X.1.2.2 0 0 X.2.2) (F0 X.2.1.1 pc ls st)
def zPre (ds : List zD) (G : zG) (u : zS) (sz : Nat) (U : State) : Prop := U.heap.size = sz ∧ va_P G.2.2.2 vwCl (zpic ds G u) U.heap ∧ va_K G.2.2.2 vwCl (zty G) U ∧ va_D (fun _ => True) (zpic ds G u) ∧ ∀ w ∈ zNst, va_Nw w U
/-- a method's contract: from the picture of u, with these arguments, it answers v and leaves the picture of w -/
def zM (l : Launch) (ds : List zD) (y : MethodName) (bytes : ByteArray) (maxL : Nat) (ret : Option FieldType) (rm : Room) (G : zG) (av : List Value) (u : zS) (v : Option Value) (w : zS) : Prop :=
  ∀ sz : Nat, Met l y (Cond.code y bytes maxL ret :: tblG) rm (va_Pc av (zPre ds G u sz)) (zQc ds G (va_A (zpic ds G u) sz) (fun v2 w2 => v2 = v ∧ w2 = w)) 0 0 (va_A (zpic ds G u) sz)
theorem zM.of {l : Launch} {ds : List zD} {y : MethodName} {bytes : ByteArray} {maxL : Nat} {ret : Option FieldType} {rm : Room} {G : zG} {av : List Value} {u : zS} {v : Option Value} {w : zS} (hy : plainName y.cls = true) (hn : (lg_sl av).length ≤ maxL)
    (body : ∀ X : zX, zC G X bytes maxL y.cls ret → zW ds l rm G X (fun v2 w2 => v2 = v ∧ w2 = w) u 0 (lv_args 0 av) []) : zM l ds y bytes maxL ret rm G av u v w := by
  intro sz
  refine Met.ofW (cc := bytes) (maxL := maxL) (ret := ret) hy rfl ?_
  intro p e s m args below meth c s₁ B hml hv
  obtain ⟨rfl, hsz, hP, hK, hD0, hN⟩ := hv
  subst hsz
  have hts := atoms_spec (ws := Cond.code y bytes maxL ret :: tblG) B.pre
  have hl := lv_entry av (n := maxL) hn
  rw [lg_entry_eq]
  exact body ((p, e, s), (m, av.toArray, below, meth, c), va_A (zpic ds G u) s.heap.size) ⟨B.exec, B.bytes, hml, findClass_of_methodNamed B.named, fun w hw => hts w (List.mem_cons_of_mem _ hw), hK, fun q h => Or.inr h, B.returns, B.notSynchronized, hN⟩ s.heap [] _ hP hD0.self va_S.rf (by rw [show (((p, e, s), (m, av.toArray, below, meth, c), va_A (zpic ds G u) s.heap.size) : zX).2.1.2.2.2.2.maxLocals = maxL from hml]; exact hl)
