/-! THE CLAIM OUT OF ONE WALK OF THE LAW'S BODY. Your part is whole_start (and what it stands on); all else here is the same for every law, but numbers. -/
def R_law : String := "PinAngelsLaw"
def lw_P (b : Addr) (xs : List Int32) (args : Array Value) (s : State) : Prop := args = #[.ref b] ∧ s.IntsAt b xs ∧ xs.length ≤ 512 ∧ (Jvm.Cond.and given_1 narrow_1).before args s = true
def lw_Q (_ : Array Value) (s : State) (o : Outcome) (t : State) : Prop := o = .returned (some (.int 1)) ∧ Framed s o t [] 58 3073
def lw_Z (below : List Frame) (a : Array Value) (s : State) : State → Prop := fun t => ∃ o, t.status = .running ∧ Ended t below o ∧ lw_Q a s o t
/-- the law's own end, with 1 on the stack, nothing written that was there before, its room as the claim has it -/
theorem lw_ret {p : Program} {l : Launch} {e : Env} {s : State} {m : MethodId} {below : List Frame} {meth : Method} {c : Code} {b : Nat} (hx : p.tables.exec = Jvm.exec) (hb : c.code = code) (hr : meth.sig.returnType = ret) (hlocks : meth.locks = false) {pc : Nat} {H : Heap} {ls : Array Slot} (hdg : decode code pc = .ok (.ireturn, 1)) : W p l e room_1 s m #[Value.ref b] below meth c H [] 58 3073 (lw_Z below #[Value.ref b] s) (F0 m pc ls [.int 1]) := by
  intro T hT X
  obtain ⟨fs, hret, hrun, hended, hW, hframe⟩ := X.leave (v := some (.int 1)) (hlocks := hlocks) (fun h => by rw [hr] at h; cases h)
  have hmeth' : T.vm.method? m = some meth := X.method'
  refine ⟨T.setFrames fs, ?_, .returned (some (.int 1)), hrun, hended, rfl, ⟨_, rfl⟩, hW, hframe⟩
  jvm_step X.here [X.here.top, hx, hb, hdg, hmeth', hr, ret, narrow_b1]
  (try refine ⟨rfl, ?_⟩); (try refine ⟨rfl, ?_⟩)
  first | (intro acts; rw [hret _ acts rfl rfl rfl]) | rw [hret _ _ rfl rfl rfl]
  exact Steps.refl _
/-- what holds at the law's entry: the machine, the code, the tables' words (any of lw_tbl by 'hts w (by decide +kernel)'), the script of L ints xs at the cell b, what the Statement gives of the start (any of its parts by flat_of_before) -/
def lw_At (p : Program) (s : State) (m : MethodId) (meth : Method) (c : Code) (b L : Nat) (xs : Nat → Int32) : Prop :=
  p.tables.exec = Jvm.exec ∧ c.code = code ∧ meth.sig.returnType = ret ∧ c.maxLocals = 4 ∧ s.vm.findClass R_law = some m.cls ∧ (∀ w ∈ lw_tbl, w.before #[Value.ref b] s = true) ∧ va_X b L xs s s.heap ∧ b < s.heap.size ∧ meth.locks = false ∧ (Jvm.Cond.and given_1 narrow_1).before #[Value.ref b] s = true
/-! THE LAW over two pictures: the class's and the reference's -/
theorem ap_Pl {D : va_G} {cl : List vw_C} {a b : va_W} {H : Heap} (h : va_P D cl (a ++ b) H) : va_P D cl a H := fun k q hk => h k q (by rw [List.getElem?_append_left (List.getElem?_eq_some_iff.mp hk).1]; exact hk)
theorem ap_r {a b : va_W} {k : Nat} {q : Nat × va_E} (hk : b[k]? = some q) : (a ++ b)[a.length + k]? = some q := by rw [List.getElem?_append_right (by omega), show a.length + k - a.length = k by omega]; exact hk
theorem ap_l {a b : va_W} {k : Nat} {q : Nat × va_E} (hk : a[k]? = some q) : (a ++ b)[k]? = some q := by rw [List.getElem?_append_left (List.getElem?_eq_some_iff.mp hk).1]; exact hk
theorem ap_Pr {D : va_G} {cl : List vw_C} {a b : va_W} {H : Heap} (h : va_P D cl (a ++ b) H) : va_P D cl b H := fun k q hk => h (a.length + k) q (ap_r hk)
theorem ap_Dl {A : Nat → Prop} {a b : va_W} (h : va_D A (a ++ b)) : va_D A a := ⟨fun i j p q hi hj e => h.1 i j p q (ap_l hi) (ap_l hj) e, fun k q hk => h.2 k q (ap_l hk)⟩
theorem ap_Dr {A : Nat → Prop} {a b : va_W} (h : va_D A (a ++ b)) : va_D A b := ⟨fun i j p q hi hj e => by have := h.1 _ _ p q (ap_r (a := a) hi) (ap_r (a := a) hj) e; omega, fun k q hk => h.2 _ q (ap_r (a := a) hk)⟩
theorem ap_ne {A : Nat → Prop} {a b : va_W} (h : va_D A (a ++ b)) {i j : Nat} {p q : Nat × va_E} (hi : a[i]? = some p) (hj : b[j]? = some q) : p.1 ≠ q.1 := fun e => by
  have h1 := h.1 _ _ p q (ap_l (b := b) hi) (ap_r (a := a) hj) e
  have h2 := (List.getElem?_eq_some_iff.mp hi).1
  omega
theorem ap_joinl {A : Nat → Prop} {D : va_G} {cl : List vw_C} {a b a1 : va_W} {H H1 : Heap} (hP : va_P D cl (a ++ b) H) (hD : va_D A (a ++ b)) (hk : ∀ q : Nat, q < H.size → ¬ va_A a H.size q → H1[q]? = H[q]?) (hF : ∀ q, va_A a H.size q → A q) (hP1 : va_P D cl a1 H1) (hD1 : va_D (va_A a H.size) a1) : va_P D cl (a1 ++ b) H1 ∧ va_D A (a1 ++ b) := by
  have hb : ∀ (k : Nat) (q : Nat × va_E), b[k]? = some q → q.1 < H.size ∧ ¬ va_A a H.size q.1 := fun k q hq => by
    have h1 := (ap_Pr hP k q hq).lt
    refine ⟨h1, fun h => ?_⟩
    rcases h with ⟨i, e, hi⟩ | h
    · exact ap_ne hD hi hq rfl
    · omega
  refine ⟨hP1.app (fun k q hq => (ap_Pr hP k q hq).kept (hk q.1 (hb k q hq).1 (hb k q hq).2)), va_D.app (hD1.weaken (fun _ q _ h => hF q.1 h)) (ap_Dr hD) (fun i j p q hi hj e => ?_)⟩
  have := hD1.2 i p hi
  rw [e] at this
  exact (hb j q hj).2 this
theorem ap_joinr {A : Nat → Prop} {D : va_G} {cl : List vw_C} {a b b1 : va_W} {H H1 : Heap} (hP : va_P D cl (a ++ b) H) (hD : va_D A (a ++ b)) (hk : ∀ q : Nat, q < H.size → ¬ va_A b H.size q → H1[q]? = H[q]?) (hF : ∀ q, va_A b H.size q → A q) (hP1 : va_P D cl b1 H1) (hD1 : va_D (va_A b H.size) b1) : va_P D cl (a ++ b1) H1 ∧ va_D A (a ++ b1) := by
  have hb : ∀ (k : Nat) (q : Nat × va_E), a[k]? = some q → q.1 < H.size ∧ ¬ va_A b H.size q.1 := fun k q hq => by
    have h1 := (ap_Pl hP k q hq).lt
    refine ⟨h1, fun h => ?_⟩
    rcases h with ⟨i, e, hi⟩ | h
    · exact ap_ne hD hq hi rfl
    · omega
  have hPa : va_P D cl a H1 := fun k q hq => (ap_Pl hP k q hq).kept (hk q.1 (hb k q hq).1 (hb k q hq).2)
  refine ⟨hPa.app hP1, va_D.app (ap_Dl hD) (hD1.weaken (fun _ q _ h => hF q.1 h)) (fun i j p q hi hj e => ?_)⟩
  have := hD1.2 j q hj
  rw [← e] at this
  exact (hb i p hi).2 this
def lC (g : ClassId × ClassId × va_G) (X : zX) (b L : Nat) (xs : Nat → Int32) : Prop := zC (fun _ => 0, g) X cL_law 4 RL ret ∧ X.2.1.2.1 = #[Value.ref b] ∧ va_X b L xs X.1.2.2 X.1.2.2.heap ∧ b < X.1.2.2.heap.size ∧ ¬ X.2.2 b ∧ ∀ q, X.2.2 q → X.1.2.2.heap.size ≤ q
def lW (l : Launch) (g : ClassId × ClassId × va_G) (X : zX) (aC aM : Nat → Nat) (uc um : zS) (pc : Nat) (lv : List (Nat × Value)) (st : List Value) : Prop :=
  ∀ (H : Heap) (locs : List Loc) (ls : Array Slot), va_P g.2.2 vwCl (zpic dscC (aC, g) uc ++ zpic dscM (aM, g) um) H → va_D X.2.2 (zpic dscC (aC, g) uc ++ zpic dscM (aM, g) um) → va_S X.2.2 X.1.2.2.heap H locs → lv_has ls X.2.1.2.2.2.2.maxLocals lv →
    W X.1.1 l X.1.2.1 room_1 X.1.2.2 X.2.1.1 X.2.1.2.1 X.2.1.2.2.1 X.2.1.2.2.2.1 X.2.1.2.2.2.2 H locs 58 3073 (lw_Z X.2.1.2.2.1 X.2.1.2.1 X.1.2.2) (F0 X.2.1.1 pc ls st)
section
variable {l : Launch} {g : ClassId × ClassId × va_G} {X : zX} {b L : Nat} {xs : Nat → Int32} {aC aM : Nat → Nat} {uc um : zS} {pc : Nat} {lv : List (Nat × Value)} {st : List Value}
theorem l_iconst (hL : lC g X b L xs) {n : Int} {v : Int32} (hd : decode cL_law pc = .ok (.iconst n, 1)) (hv : Int32.ofInt n = v) (k : lW l g X aC aM uc um (pc + 1) lv (.int v :: st)) : lW l g X aC aM uc um pc lv (st) := fun H locs ls h1 h2 h3 h4 => lv_iconst hL.1.1 hL.1.2.1 hd hv (k H locs ls h1 h2 h3 h4)
theorem l_bipush (hL : lC g X b L xs) {n : Int} {v : Int32} (hd : decode cL_law pc = .ok (.bipush n, 2)) (hv : (Int8.ofInt n).toInt32 = v) (k : lW l g X aC aM uc um (pc + 2) lv (.int v :: st)) : lW l g X aC aM uc um pc lv (st) := fun H locs ls h1 h2 h3 h4 => lv_bipush hL.1.1 hL.1.2.1 hd hv (k H locs ls h1 h2 h3 h4)
theorem l_iload_n (hL : lC g X b L xs) {k : Fin 4} {x : Int32} (hd : decode cL_law pc = .ok (.iload_n k, 1)) (j : Nat) (hj : lv[j]? = some ((k : Nat), .int x)) (k : lW l g X aC aM uc um (pc + 1) lv (.int x :: st)) : lW l g X aC aM uc um pc lv (st) := fun H locs ls h1 h2 h3 h4 => lv_iload_n hL.1.1 hL.1.2.1 hd rfl (lv_at h4 j hj) (k H locs ls h1 h2 h3 h4)
theorem l_aload_n (hL : lC g X b L xs) {k : Fin 4} {x : Nat} (hd : decode cL_law pc = .ok (.aload_n k, 1)) (j : Nat) (hj : lv[j]? = some ((k : Nat), .ref x)) (k : lW l g X aC aM uc um (pc + 1) lv (.ref x :: st)) : lW l g X aC aM uc um pc lv (st) := fun H locs ls h1 h2 h3 h4 => lv_aload_n hL.1.1 hL.1.2.1 hd rfl (lv_at h4 j hj) (k H locs ls h1 h2 h3 h4)
theorem l_iadd (hL : lC g X b L xs) {x y : Int32} (hd : decode cL_law pc = .ok (.iadd, 1))  (k : lW l g X aC aM uc um (pc + 1) lv (.int (x + y) :: st)) : lW l g X aC aM uc um pc lv (.int y :: .int x :: st) := fun H locs ls h1 h2 h3 h4 => lv_iadd hL.1.1 hL.1.2.1 hd  (k H locs ls h1 h2 h3 h4)
theorem l_isub (hL : lC g X b L xs) {x y : Int32} (hd : decode cL_law pc = .ok (.isub, 1))  (k : lW l g X aC aM uc um (pc + 1) lv (.int (x - y) :: st)) : lW l g X aC aM uc um pc lv (.int y :: .int x :: st) := fun H locs ls h1 h2 h3 h4 => lv_isub hL.1.1 hL.1.2.1 hd  (k H locs ls h1 h2 h3 h4)
theorem l_iand (hL : lC g X b L xs) {x y : Int32} (hd : decode cL_law pc = .ok (.iand, 1))  (k : lW l g X aC aM uc um (pc + 1) lv (.int (x &&& y) :: st)) : lW l g X aC aM uc um pc lv (.int y :: .int x :: st) := fun H locs ls h1 h2 h3 h4 => lv_iand hL.1.1 hL.1.2.1 hd  (k H locs ls h1 h2 h3 h4)
theorem l_land (hL : lC g X b L xs) {x y : Int64} (hd : decode cL_law pc = .ok (.land, 1))  (k : lW l g X aC aM uc um (pc + 1) lv (.long (x &&& y) :: st)) : lW l g X aC aM uc um pc lv (.long y :: .long x :: st) := fun H locs ls h1 h2 h3 h4 => lv_land hL.1.1 hL.1.2.1 hd  (k H locs ls h1 h2 h3 h4)
theorem l_lor (hL : lC g X b L xs) {x y : Int64} (hd : decode cL_law pc = .ok (.lor, 1))  (k : lW l g X aC aM uc um (pc + 1) lv (.long (x ||| y) :: st)) : lW l g X aC aM uc um pc lv (.long y :: .long x :: st) := fun H locs ls h1 h2 h3 h4 => lv_lor hL.1.1 hL.1.2.1 hd  (k H locs ls h1 h2 h3 h4)
theorem l_lshl (hL : lC g X b L xs) {x : Int64} {y : Int32} (hd : decode cL_law pc = .ok (.lshl, 1))  (k : lW l g X aC aM uc um (pc + 1) lv (.long (x <<< (y.toInt64 &&& 63)) :: st)) : lW l g X aC aM uc um pc lv (.int y :: .long x :: st) := fun H locs ls h1 h2 h3 h4 => lv_lshl hL.1.1 hL.1.2.1 hd rfl (k H locs ls h1 h2 h3 h4)
theorem l_i2l (hL : lC g X b L xs) {x : Int32} (hd : decode cL_law pc = .ok (.i2l, 1))  (k : lW l g X aC aM uc um (pc + 1) lv (.long x.toInt64 :: st)) : lW l g X aC aM uc um pc lv (.int x :: st) := fun H locs ls h1 h2 h3 h4 => lv_i2l hL.1.1 hL.1.2.1 hd rfl (k H locs ls h1 h2 h3 h4)
theorem l_ldc2 (hL : lC g X b L xs) {idx : Nat} {v : Int64} (hm : Cond.constantLong RL idx v ∈ tblG) (hd : decode cL_law pc = .ok (.ldc2_w idx, 3)) (k : lW l g X aC aM uc um (pc + 3) lv (.long v :: st)) : lW l g X aC aM uc um pc lv st := fun H locs ls h1 h2 h3 h4 => lv_ldc2 hL.1.1 hL.1.2.1 hL.1.2.2.2.1 (hL.1.2.2.2.2.1 _ hm) hd (k H locs ls h1 h2 h3 h4)
theorem l_istore_n (hL : lC g X b L xs) {k : Fin 4} {i : Nat} {x : Int32} {lv' : List (Nat × Value)} (hd : decode cL_law pc = .ok (.istore_n k, 1)) (hi : (k : Nat) = i) (hn : i < 4) (hl : (i, Value.int x) :: lv.filter (fun q => !(q.1 == i) && !(q.1 + 1 == i && q.2.category == 2)) = lv') (kk : lW l g X aC aM uc um (pc + 1) lv' st) : lW l g X aC aM uc um pc lv (Value.int x :: st) := fun H locs ls h1 h2 h3 h4 => lv_istore_n hL.1.1 hL.1.2.1 hd hi h4 (by rw [hL.1.2.2.1]; exact hn) hl (fun ls' h => kk H locs ls' h1 h2 h3 h)
theorem l_iinc (hL : lC g X b L xs) {i : Nat} {n : Int} {x v : Int32} {lv' : List (Nat × Value)} (hd : decode cL_law pc = .ok (.iinc i n, 3)) (j : Nat) (hj : lv[j]? = some (i, .int x)) (hv : Int32.ofInt n = v) (hn : i < 4) (hl : (i, Value.int (x + v)) :: lv.filter (fun q => !(q.1 == i) && !(q.1 + 1 == i && q.2.category == 2)) = lv') (kk : lW l g X aC aM uc um (pc + 3) lv' st) : lW l g X aC aM uc um pc lv st := fun H locs ls h1 h2 h3 h4 => lv_iinc hL.1.1 hL.1.2.1 hd h4 hj (by rw [hv]) (by rw [hL.1.2.2.1]; exact hn) hl (fun ls' h => kk H locs ls' h1 h2 h3 h)
theorem l_goto (hL : lC g X b L xs) {off : Int} {tgt : Nat} (hd : decode cL_law pc = .ok (.goto off, 3)) (ht : (pc : Int) + off = (tgt : Int)) (k : lW l g X aC aM uc um tgt lv st) : lW l g X aC aM uc um pc lv st := fun H locs ls h1 h2 h3 h4 => lv_goto hL.1.1 hL.1.2.1 hd ht (k H locs ls h1 h2 h3 h4)
theorem l_icmp_gt (hL : lC g X b L xs) {x y : Int32} {off : Int} {tgt : Nat} (hd : decode cL_law pc = .ok (.if_icmp .gt off, 3)) (ht : (pc : Int) + off = (tgt : Int)) (kt : y < x → lW l g X aC aM uc um tgt lv st) (kf : ¬ y < x → lW l g X aC aM uc um (pc + 3) lv st) : lW l g X aC aM uc um pc lv (.int y :: .int x :: st) := fun H locs ls h1 h2 h3 h4 => lv_icmp_gt hL.1.1 hL.1.2.1 hd ht (fun q => kt q H locs ls h1 h2 h3 h4) (fun q => kf q H locs ls h1 h2 h3 h4)
theorem l_eqT (hL : lC g X b L xs) {x : Int32} {off : Int} {tgt : Nat} (hd : decode cL_law pc = .ok (.if_icmp .eq off, 3)) (ht : (pc : Int) + off = (tgt : Int)) (kt : lW l g X aC aM uc um tgt lv st) : lW l g X aC aM uc um pc lv (.int x :: .int x :: st) := fun H locs ls h1 h2 h3 h4 => lv_icmp_eq hL.1.1 hL.1.2.1 hd ht (fun _ => kt H locs ls h1 h2 h3 h4) (fun q => absurd rfl q)
theorem l_tsIn (hL : lC g X b L xs) {dflt lo hi : Int} {offs : Array Int} {len : Nat} {x q : Int32} {off : Int} {tgt : Nat} (hd : decode cL_law pc = .ok (.tableswitch dflt lo hi offs, len)) (hq : x = q) (hh : ¬ q.toInt < lo ∧ ¬ hi < q.toInt ∧ offs[(q.toInt - lo).toNat]? = some off) (ht : (pc : Int) + off = (tgt : Int)) (k : lW l g X aC aM uc um tgt lv st) : lW l g X aC aM uc um pc lv (.int x :: st) := by
  subst hq
  exact fun H locs ls h1 h2 h3 h4 => lv_tableIn hL.1.1 hL.1.2.1 hd hh.1 hh.2.1 hh.2.2 ht (k H locs ls h1 h2 h3 h4)
theorem l_tsOut (hL : lC g X b L xs) {dflt lo hi : Int} {offs : Array Int} {len : Nat} {x : Int32} {tgt : Nat} (hd : decode cL_law pc = .ok (.tableswitch dflt lo hi offs, len)) (hh : x.toInt < lo ∨ hi < x.toInt) (ht : (pc : Int) + dflt = (tgt : Int)) (k : lW l g X aC aM uc um tgt lv st) : lW l g X aC aM uc um pc lv (.int x :: st) := fun H locs ls h1 h2 h3 h4 => lv_tableOut hL.1.1 hL.1.2.1 hd hh ht (k H locs ls h1 h2 h3 h4)
theorem l_sld (hL : lC g X b L xs) {i : Int32} (hin : vp_in i L) (hd : decode cL_law pc = .ok (.iaload, 1)) (k : lW l g X aC aM uc um (pc + 1) lv (.int (xs i.toNatClampNeg) :: st)) : lW l g X aC aM uc um pc lv (.int i :: .ref b :: st) := fun H locs ls h1 h2 h3 h4 => va_sld hL.1.1 hL.1.2.1 hL.2.2.1 hL.2.2.2.1 hL.2.2.2.2.1 h3 hin hd (k H locs ls h1 h2 h3 h4)
theorem l_slen (hL : lC g X b L xs) (hd : decode cL_law pc = .ok (.arraylength, 1)) (k : lW l g X aC aM uc um (pc + 1) lv (.int (Int32.ofNat L) :: st)) : lW l g X aC aM uc um pc lv (.ref b :: st) := fun H locs ls h1 h2 h3 h4 => va_slen hL.1.1 hL.1.2.1 hL.2.2.1 hL.2.2.2.1 hL.2.2.2.2.1 h3 hd (k H locs ls h1 h2 h3 h4)
theorem l_loc {lv' : List (Nat × Value)} (ks : List Nat) (hl : lv_pick lv ks = lv') (k : lW l g X aC aM uc um pc lv' st) : lW l g X aC aM uc um pc lv st := fun H locs ls h1 h2 h3 h4 => k H locs ls h1 h2 h3 (lv_sub h4 ks hl)
theorem l_end (hL : lC g X b L xs) (hd : decode cL_law pc = .ok (.ireturn, 1)) : lW l g X aC aM uc um pc lv [.int 1] := fun H locs ls h1 h2 h3 h4 => by
  refine va_forget (fun q hq => hL.2.2.2.2.2 q.base (h3.2.2 q hq)) ?_
  have e := hL.2.1
  rw [e]
  exact lw_ret hL.1.1 hL.1.2.1 hL.1.2.2.2.2.2.2.2.1 hL.1.2.2.2.2.2.2.2.2.1 hd
theorem l_cC (hL : lC g X b L xs) {y : MethodName} {bytes : ByteArray} {maxL n idx : Nat} {rm : Room} {As rest : List Value} {r : Int32} {w : zS}
    (hM : zM l dscC y bytes maxL (some .int) rm (aC, g) (.ref (aC 0) :: As) uc (some (.int r)) w) (hY : zYv y bytes maxL (some .int) n 5) (hK : Cond.methodLink RL idx y ∈ tblG) (hR : zRm rm room_1 maxL) (hn : As.length = n) (hst : st = As.reverse ++ .ref (aC 0) :: rest) (hw : (rest.map fun v => v.category).sum ≤ 8) (hd : decode cL_law pc = .ok (.invokevirtual idx, 3)) (kk : lW l g X aC aM w um (pc + 3) lv (.int r :: rest)) : lW l g X aC aM uc um pc lv st := by
  obtain ⟨y1, y2, y3, y4, y5, y6⟩ := hY
  obtain ⟨r1, r2, r3, r4⟩ := hR
  have hC : zC (aC, g) X cL_law 4 RL ret := hL.1
  intro H locs ls h1 h2 h3 h4
  have hrecv := va_recv hC.2.2.2.2.2.1 (ap_Pl h1) (ci := 5) (q0 := 0) rfl (zpic_get (G := (aC, g)) (u := uc) dC_0)
  have hy6 : y.cls = RX5 := (Option.some.inj y6).symm
  have hFc : ∀ q, va_A (zpic dscC (aC, g) uc) H.size q → X.2.2 q := by
    intro q hq
    rcases hq with ⟨k, e, hk⟩ | hq
    · exact (ap_Dl h2).2 k _ hk
    · exact hC.2.2.2.2.2.2.1 q (Nat.le_trans h3.1 hq)
  have run := va_runV (l := l) (e := X.1.2.1) (R := room_1) (below := X.2.1.2.2.1) (meth := X.2.1.2.2.2.1) (H := H) (locs := locs) (cells := 58) (slots := 3073) (g := F0 X.2.1.1 pc ls st) (C := y.cls) (As := As) (rest := rest) (cc := cL_law) (nL := 4) (own := RL) (Ts := tblG) (bytes := bytes) (maxL := maxL) (ret := some .int) (n := n) (index := idx) (b := aC 0) ⟨hC.1, hC.2.1, hC.2.2.1, hC.2.2.2.1, hC.2.2.2.2.1⟩ (hM H.size) ⟨callB_of (ws' := tblG) n hC.2.2.2.2.1 (tblG_in y1) rfl r3 r4 (hC.2.2.2.2.1 _ y4) (hC.2.2.2.2.1 _ hK) y5 ⟨r1, r2⟩, hC.2.2.2.2.1 _ y2, hC.2.2.2.2.1 _ y3⟩ ⟨zPre_blind, by rw [hy6]; exact hrecv, fun U hU hW => zPre_at hC (ap_Pl h1) (ap_Dl h2) U hU hW⟩ rfl hn (h4.1.trans hC.2.2.1) hst (lv_room hw) hd ⟨by decide, by decide⟩
  intro T hT XX
  obtain ⟨v', st₀, t, T', Lq, h0, X', hLq, e1, e2, ⟨⟨v2, u2, hv, ⟨q1, q2⟩, hP', hK', hD'⟩, hz, hk⟩, stp⟩ := run T hT XX
  have hv' : v' = some (.int r) := by
    have := Outcome.returned.inj hv
    rw [this, q1]
  subst hv'
  subst q2
  rw [h0] at hz hk
  have hS : va_S X.2.2 X.1.2.2.heap T'.heap (locs ++ Lq) := ⟨Nat.le_trans h3.1 (by rw [e1]; exact hz), fun q g1 g2 => by rw [e1, hk q (Nat.lt_of_lt_of_le g1 h3.1) (fun z => g2 (hFc q z))]; exact h3.2.1 q g1 g2, fun q hq => by
      rcases List.mem_append.mp hq with h | h
      · exact h3.2.2 q h
      · exact hFc _ (hLq q h)⟩
  obtain ⟨hPj, hDj⟩ := ap_joinl (H1 := T'.heap) h1 h2 (by rw [e1]; exact hk) hFc (by rw [e1]; exact hP') hD'
  obtain ⟨t2, a1, b1⟩ := kk T'.heap (locs ++ Lq) ls hPj hDj hS h4 T' rfl X'
  exact ⟨t2, stp t2 a1, b1⟩
theorem l_cM (hL : lC g X b L xs) {y : MethodName} {bytes : ByteArray} {maxL n idx : Nat} {rm : Room} {As rest : List Value} {r : Int32} {w : zS}
    (hM : zM l dscM y bytes maxL (some .int) rm (aM, g) (.ref (aM 0) :: As) um (some (.int r)) w) (hY : zYv y bytes maxL (some .int) n 6) (hK : Cond.methodLink RL idx y ∈ tblG) (hR : zRm rm room_1 maxL) (hn : As.length = n) (hst : st = As.reverse ++ .ref (aM 0) :: rest) (hw : (rest.map fun v => v.category).sum ≤ 8) (hd : decode cL_law pc = .ok (.invokevirtual idx, 3)) (kk : lW l g X aC aM uc w (pc + 3) lv (.int r :: rest)) : lW l g X aC aM uc um pc lv st := by
  obtain ⟨y1, y2, y3, y4, y5, y6⟩ := hY
  obtain ⟨r1, r2, r3, r4⟩ := hR
  have hC : zC (aM, g) X cL_law 4 RL ret := hL.1
  intro H locs ls h1 h2 h3 h4
  have hrecv := va_recv hC.2.2.2.2.2.1 (ap_Pr h1) (ci := 6) (q0 := 0) rfl (zpic_get (G := (aM, g)) (u := um) dM_0)
  have hy6 : y.cls = RX6 := (Option.some.inj y6).symm
  have hFc : ∀ q, va_A (zpic dscM (aM, g) um) H.size q → X.2.2 q := by
    intro q hq
    rcases hq with ⟨k, e, hk⟩ | hq
    · exact (ap_Dr h2).2 k _ hk
    · exact hC.2.2.2.2.2.2.1 q (Nat.le_trans h3.1 hq)
  have run := va_runV (l := l) (e := X.1.2.1) (R := room_1) (below := X.2.1.2.2.1) (meth := X.2.1.2.2.2.1) (H := H) (locs := locs) (cells := 58) (slots := 3073) (g := F0 X.2.1.1 pc ls st) (C := y.cls) (As := As) (rest := rest) (cc := cL_law) (nL := 4) (own := RL) (Ts := tblG) (bytes := bytes) (maxL := maxL) (ret := some .int) (n := n) (index := idx) (b := aM 0) ⟨hC.1, hC.2.1, hC.2.2.1, hC.2.2.2.1, hC.2.2.2.2.1⟩ (hM H.size) ⟨callB_of (ws' := tblG) n hC.2.2.2.2.1 (tblG_in y1) rfl r3 r4 (hC.2.2.2.2.1 _ y4) (hC.2.2.2.2.1 _ hK) y5 ⟨r1, r2⟩, hC.2.2.2.2.1 _ y2, hC.2.2.2.2.1 _ y3⟩ ⟨zPre_blind, by rw [hy6]; exact hrecv, fun U hU hW => zPre_at hC (ap_Pr h1) (ap_Dr h2) U hU hW⟩ rfl hn (h4.1.trans hC.2.2.1) hst (lv_room hw) hd ⟨by decide, by decide⟩
  intro T hT XX
  obtain ⟨v', st₀, t, T', Lq, h0, X', hLq, e1, e2, ⟨⟨v2, u2, hv, ⟨q1, q2⟩, hP', hK', hD'⟩, hz, hk⟩, stp⟩ := run T hT XX
  have hv' : v' = some (.int r) := by
    have := Outcome.returned.inj hv
    rw [this, q1]
  subst hv'
  subst q2
  rw [h0] at hz hk
  have hS : va_S X.2.2 X.1.2.2.heap T'.heap (locs ++ Lq) := ⟨Nat.le_trans h3.1 (by rw [e1]; exact hz), fun q g1 g2 => by rw [e1, hk q (Nat.lt_of_lt_of_le g1 h3.1) (fun z => g2 (hFc q z))]; exact h3.2.1 q g1 g2, fun q hq => by
      rcases List.mem_append.mp hq with h | h
      · exact h3.2.2 q h
      · exact hFc _ (hLq q h)⟩
  obtain ⟨hPj, hDj⟩ := ap_joinr (H1 := T'.heap) h1 h2 (by rw [e1]; exact hk) hFc (by rw [e1]; exact hP') hD'
  obtain ⟨t2, a1, b1⟩ := kk T'.heap (locs ++ Lq) ls hPj hDj hS h4 T' rfl X'
  exact ⟨t2, stp t2 a1, b1⟩
end
def op_angel (N : Nat) (RR : zS → zS → Prop) (uc um : zS) (a0 : Int32) : Prop := ∃ (r : Int32) (uc' : zS) (um' : zS), f_X5_angel N uc a0 = some (r, uc') ∧ f_X6_angel N um a0 = some (r, um') ∧ RR uc' um'
set_option maxHeartbeats 4000000 in
set_option maxRecDepth 100000 in
theorem lc_angel {l : Launch} {g : ClassId × ClassId × va_G} {X : zX} {b L : Nat} {xs : Nat → Int32} {aC aM : Nat → Nat} {uc um : zS} {x3 : Int32} {N : Nat} {RR : zS → zS → Prop} (hL : lC g X b L xs) (hx1 : vp_in (x3 + 1) L) (ho : op_angel N RR uc um (xs (Int32.toNatClampNeg (x3 + 1)))) (kk : ∀ uc' um' : zS, RR uc' um' → lW l g X aC aM uc' um' 1339 [(0, .ref b), (1, .ref (aC 0)), (2, .ref (aM 0)), (3, .int x3)] []) : lW l g X aC aM uc um 188 [(0, .ref b), (1, .ref (aC 0)), (2, .ref (aM 0)), (3, .int x3)] [] := by
  obtain ⟨r, uc', um', hC, hM, hr⟩ := ho
  refine l_aload_n hL dL_law_188 1 rfl ?_
  refine l_aload_n hL dL_law_189 0 rfl ?_
  refine l_iload_n hL dL_law_190 3 rfl ?_
  refine l_iconst (v := 1) hL dL_law_191 (by decide) ?_
  refine l_iadd hL dL_law_192 ?_
  refine l_sld hL hx1 dL_law_193 ?_
  refine l_cC (As := [.int (xs (Int32.toNatClampNeg (x3 + 1)))]) (rest := []) hL (c_X5_angel hC) yv_X5_angel ml_RL_13 ⟨by decide, by decide, rfl, rfl⟩ rfl rfl (Nat.le_of_ble_eq_true rfl) dL_law_194 ?_
  refine l_aload_n hL dL_law_197 2 rfl ?_
  refine l_aload_n hL dL_law_198 0 rfl ?_
  refine l_iload_n hL dL_law_199 3 rfl ?_
  refine l_iconst (v := 1) hL dL_law_200 (by decide) ?_
  refine l_iadd hL dL_law_201 ?_
  refine l_sld hL hx1 dL_law_202 ?_
  refine l_cM (As := [.int (xs (Int32.toNatClampNeg (x3 + 1)))]) (rest := [.int r]) hL (c_X6_angel hM) yv_X6_angel ml_RL_17 ⟨by decide, by decide, rfl, rfl⟩ rfl rfl (Nat.le_of_ble_eq_true rfl) dL_law_203 ?_
  refine l_eqT (tgt := 1339) hL dL_law_206 (by decide) ?_
  exact kk _ _ hr
def op_figure (N : Nat) (RR : zS → zS → Prop) (uc um : zS) (a0 : Int32) (a1 : Int32) : Prop := ∃ (r : Int32) (uc' : zS) (um' : zS), f_X5_figure N uc a0 a1 = some (r, uc') ∧ f_X6_figure um a0 a1 = some (r, um') ∧ RR uc' um'
set_option maxHeartbeats 4000000 in
set_option maxRecDepth 100000 in
theorem lc_figure {l : Launch} {g : ClassId × ClassId × va_G} {X : zX} {b L : Nat} {xs : Nat → Int32} {aC aM : Nat → Nat} {uc um : zS} {x3 : Int32} {N : Nat} {RR : zS → zS → Prop} (hL : lC g X b L xs) (hx1 : vp_in (x3 + 1) L) (hx2 : vp_in (x3 + 2) L) (ho : op_figure N RR uc um (xs (Int32.toNatClampNeg (x3 + 1))) (xs (Int32.toNatClampNeg (x3 + 2)))) (kk : ∀ uc' um' : zS, RR uc' um' → lW l g X aC aM uc' um' 1339 [(0, .ref b), (1, .ref (aC 0)), (2, .ref (aM 0)), (3, .int x3)] []) : lW l g X aC aM uc um 211 [(0, .ref b), (1, .ref (aC 0)), (2, .ref (aM 0)), (3, .int x3)] [] := by
  obtain ⟨r, uc', um', hC, hM, hr⟩ := ho
  refine l_aload_n hL dL_law_211 1 rfl ?_
  refine l_aload_n hL dL_law_212 0 rfl ?_
  refine l_iload_n hL dL_law_213 3 rfl ?_
  refine l_iconst (v := 1) hL dL_law_214 (by decide) ?_
  refine l_iadd hL dL_law_215 ?_
  refine l_sld hL hx1 dL_law_216 ?_
  refine l_aload_n hL dL_law_217 0 rfl ?_
  refine l_iload_n hL dL_law_218 3 rfl ?_
  refine l_iconst (v := 2) hL dL_law_219 (by decide) ?_
  refine l_iadd hL dL_law_220 ?_
  refine l_sld hL hx2 dL_law_221 ?_
  refine l_cC (As := [.int (xs (Int32.toNatClampNeg (x3 + 1))), .int (xs (Int32.toNatClampNeg (x3 + 2)))]) (rest := []) hL (c_X5_figure hC) yv_X5_figure ml_RL_18 ⟨by decide, by decide, rfl, rfl⟩ rfl rfl (Nat.le_of_ble_eq_true rfl) dL_law_222 ?_
  refine l_aload_n hL dL_law_225 2 rfl ?_
  refine l_aload_n hL dL_law_226 0 rfl ?_
  refine l_iload_n hL dL_law_227 3 rfl ?_
  refine l_iconst (v := 1) hL dL_law_228 (by decide) ?_
  refine l_iadd hL dL_law_229 ?_
  refine l_sld hL hx1 dL_law_230 ?_
  refine l_aload_n hL dL_law_231 0 rfl ?_
  refine l_iload_n hL dL_law_232 3 rfl ?_
  refine l_iconst (v := 2) hL dL_law_233 (by decide) ?_
  refine l_iadd hL dL_law_234 ?_
  refine l_sld hL hx2 dL_law_235 ?_
  refine l_cM (As := [.int (xs (Int32.toNatClampNeg (x3 + 1))), .int (xs (Int32.toNatClampNeg (x3 + 2)))]) (rest := [.int r]) hL (c_X6_figure hM) yv_X6_figure ml_RL_22 ⟨by decide, by decide, rfl, rfl⟩ rfl rfl (Nat.le_of_ble_eq_true rfl) dL_law_236 ?_
  refine l_eqT (tgt := 1339) hL dL_law_239 (by decide) ?_
  exact kk _ _ hr
def op_tune (N : Nat) (RR : zS → zS → Prop) (uc um : zS) (a0 : Int32) : Prop := ∃ (r : Int32) (uc' : zS) (um' : zS), f_X5_tune uc a0 = some (r, uc') ∧ f_X6_tune um a0 = some (r, um') ∧ RR uc' um'
set_option maxHeartbeats 4000000 in
set_option maxRecDepth 100000 in
theorem lc_tune {l : Launch} {g : ClassId × ClassId × va_G} {X : zX} {b L : Nat} {xs : Nat → Int32} {aC aM : Nat → Nat} {uc um : zS} {x3 : Int32} {N : Nat} {RR : zS → zS → Prop} (hL : lC g X b L xs) (hx1 : vp_in (x3 + 1) L) (ho : op_tune N RR uc um (xs (Int32.toNatClampNeg (x3 + 1)))) (kk : ∀ uc' um' : zS, RR uc' um' → lW l g X aC aM uc' um' 1339 [(0, .ref b), (1, .ref (aC 0)), (2, .ref (aM 0)), (3, .int x3)] []) : lW l g X aC aM uc um 244 [(0, .ref b), (1, .ref (aC 0)), (2, .ref (aM 0)), (3, .int x3)] [] := by
  obtain ⟨r, uc', um', hC, hM, hr⟩ := ho
  refine l_aload_n hL dL_law_244 1 rfl ?_
  refine l_aload_n hL dL_law_245 0 rfl ?_
  refine l_iload_n hL dL_law_246 3 rfl ?_
  refine l_iconst (v := 1) hL dL_law_247 (by decide) ?_
  refine l_iadd hL dL_law_248 ?_
  refine l_sld hL hx1 dL_law_249 ?_
  refine l_cC (As := [.int (xs (Int32.toNatClampNeg (x3 + 1)))]) (rest := []) hL (c_X5_tune hC) yv_X5_tune ml_RL_23 ⟨by decide, by decide, rfl, rfl⟩ rfl rfl (Nat.le_of_ble_eq_true rfl) dL_law_250 ?_
  refine l_aload_n hL dL_law_253 2 rfl ?_
  refine l_aload_n hL dL_law_254 0 rfl ?_
  refine l_iload_n hL dL_law_255 3 rfl ?_
  refine l_iconst (v := 1) hL dL_law_256 (by decide) ?_
  refine l_iadd hL dL_law_257 ?_
  refine l_sld hL hx1 dL_law_258 ?_
  refine l_cM (As := [.int (xs (Int32.toNatClampNeg (x3 + 1)))]) (rest := [.int r]) hL (c_X6_tune hM) yv_X6_tune ml_RL_26 ⟨by decide, by decide, rfl, rfl⟩ rfl rfl (Nat.le_of_ble_eq_true rfl) dL_law_259 ?_
  refine l_eqT (tgt := 1339) hL dL_law_262 (by decide) ?_
  exact kk _ _ hr
def op_hush (N : Nat) (RR : zS → zS → Prop) (uc um : zS) : Prop := ∃ (r : Int32) (uc' : zS) (um' : zS), f_X5_hush uc = (r, uc') ∧ f_X6_hush um = (r, um') ∧ RR uc' um'
set_option maxHeartbeats 4000000 in
set_option maxRecDepth 100000 in
theorem lc_hush {l : Launch} {g : ClassId × ClassId × va_G} {X : zX} {b L : Nat} {xs : Nat → Int32} {aC aM : Nat → Nat} {uc um : zS} {x3 : Int32} {N : Nat} {RR : zS → zS → Prop} (hL : lC g X b L xs)  (ho : op_hush N RR uc um ) (kk : ∀ uc' um' : zS, RR uc' um' → lW l g X aC aM uc' um' 1339 [(0, .ref b), (1, .ref (aC 0)), (2, .ref (aM 0)), (3, .int x3)] []) : lW l g X aC aM uc um 267 [(0, .ref b), (1, .ref (aC 0)), (2, .ref (aM 0)), (3, .int x3)] [] := by
  obtain ⟨r, uc', um', hC, hM, hr⟩ := ho
  refine l_aload_n hL dL_law_267 1 rfl ?_
  refine l_cC (As := []) (rest := []) hL (c_X5_hush hC) yv_X5_hush ml_RL_27 ⟨by decide, by decide, rfl, rfl⟩ rfl rfl (Nat.le_of_ble_eq_true rfl) dL_law_268 ?_
  refine l_aload_n hL dL_law_271 2 rfl ?_
  refine l_cM (As := []) (rest := [.int r]) hL (c_X6_hush hM) yv_X6_hush ml_RL_31 ⟨by decide, by decide, rfl, rfl⟩ rfl rfl (Nat.le_of_ble_eq_true rfl) dL_law_272 ?_
  refine l_eqT (tgt := 1339) hL dL_law_275 (by decide) ?_
  exact kk _ _ hr
def op_of (N : Nat) (RR : zS → zS → Prop) (uc um : zS) (a0 : Int32) (a1 : Int32) : Prop := ∃ (r : Int32) (um' : zS), f_X5_of N uc a0 a1 = some r ∧ f_X6_of N um a0 a1 = some (r, um') ∧ RR uc um'
set_option maxHeartbeats 4000000 in
set_option maxRecDepth 100000 in
theorem lc_of {l : Launch} {g : ClassId × ClassId × va_G} {X : zX} {b L : Nat} {xs : Nat → Int32} {aC aM : Nat → Nat} {uc um : zS} {x3 : Int32} {N : Nat} {RR : zS → zS → Prop} (hL : lC g X b L xs) (hx1 : vp_in (x3 + 1) L) (hx2 : vp_in (x3 + 2) L) (ho : op_of N RR uc um (xs (Int32.toNatClampNeg (x3 + 1))) (xs (Int32.toNatClampNeg (x3 + 2)))) (kk : ∀ uc' um' : zS, RR uc' um' → lW l g X aC aM uc' um' 1339 [(0, .ref b), (1, .ref (aC 0)), (2, .ref (aM 0)), (3, .int x3)] []) : lW l g X aC aM uc um 280 [(0, .ref b), (1, .ref (aC 0)), (2, .ref (aM 0)), (3, .int x3)] [] := by
  obtain ⟨r, um', hC, hM, hr⟩ := ho
  refine l_aload_n hL dL_law_280 1 rfl ?_
  refine l_aload_n hL dL_law_281 0 rfl ?_
  refine l_iload_n hL dL_law_282 3 rfl ?_
  refine l_iconst (v := 1) hL dL_law_283 (by decide) ?_
  refine l_iadd hL dL_law_284 ?_
  refine l_sld hL hx1 dL_law_285 ?_
  refine l_aload_n hL dL_law_286 0 rfl ?_
  refine l_iload_n hL dL_law_287 3 rfl ?_
  refine l_iconst (v := 2) hL dL_law_288 (by decide) ?_
  refine l_iadd hL dL_law_289 ?_
  refine l_sld hL hx2 dL_law_290 ?_
  refine l_cC (As := [.int (xs (Int32.toNatClampNeg (x3 + 1))), .int (xs (Int32.toNatClampNeg (x3 + 2)))]) (rest := []) hL (c_X5_of hC) yv_X5_of ml_RL_32 ⟨by decide, by decide, rfl, rfl⟩ rfl rfl (Nat.le_of_ble_eq_true rfl) dL_law_291 ?_
  refine l_aload_n hL dL_law_294 2 rfl ?_
  refine l_aload_n hL dL_law_295 0 rfl ?_
  refine l_iload_n hL dL_law_296 3 rfl ?_
  refine l_iconst (v := 1) hL dL_law_297 (by decide) ?_
  refine l_iadd hL dL_law_298 ?_
  refine l_sld hL hx1 dL_law_299 ?_
  refine l_aload_n hL dL_law_300 0 rfl ?_
  refine l_iload_n hL dL_law_301 3 rfl ?_
  refine l_iconst (v := 2) hL dL_law_302 (by decide) ?_
  refine l_iadd hL dL_law_303 ?_
  refine l_sld hL hx2 dL_law_304 ?_
  refine l_cM (As := [.int (xs (Int32.toNatClampNeg (x3 + 1))), .int (xs (Int32.toNatClampNeg (x3 + 2)))]) (rest := [.int r]) hL (c_X6_of hM) yv_X6_of ml_RL_35 ⟨by decide, by decide, rfl, rfl⟩ rfl rfl (Nat.le_of_ble_eq_true rfl) dL_law_305 ?_
  refine l_eqT (tgt := 1339) hL dL_law_308 (by decide) ?_
  exact kk _ _ hr
def op_leads (N : Nat) (RR : zS → zS → Prop) (uc um : zS) (a0 : Int32) (a1 : Int32) : Prop := ∃ (r : Int32), f_X5_leads uc a0 a1 = some r ∧ f_X6_leads um a0 a1 = some r ∧ RR uc um
set_option maxHeartbeats 4000000 in
set_option maxRecDepth 100000 in
theorem lc_leads {l : Launch} {g : ClassId × ClassId × va_G} {X : zX} {b L : Nat} {xs : Nat → Int32} {aC aM : Nat → Nat} {uc um : zS} {x3 : Int32} {N : Nat} {RR : zS → zS → Prop} (hL : lC g X b L xs) (hx1 : vp_in (x3 + 1) L) (hx2 : vp_in (x3 + 2) L) (ho : op_leads N RR uc um (xs (Int32.toNatClampNeg (x3 + 1))) (xs (Int32.toNatClampNeg (x3 + 2)))) (kk : ∀ uc' um' : zS, RR uc' um' → lW l g X aC aM uc' um' 1339 [(0, .ref b), (1, .ref (aC 0)), (2, .ref (aM 0)), (3, .int x3)] []) : lW l g X aC aM uc um 313 [(0, .ref b), (1, .ref (aC 0)), (2, .ref (aM 0)), (3, .int x3)] [] := by
  obtain ⟨r, hC, hM, hr⟩ := ho
  refine l_aload_n hL dL_law_313 1 rfl ?_
  refine l_aload_n hL dL_law_314 0 rfl ?_
  refine l_iload_n hL dL_law_315 3 rfl ?_
  refine l_iconst (v := 1) hL dL_law_316 (by decide) ?_
  refine l_iadd hL dL_law_317 ?_
  refine l_sld hL hx1 dL_law_318 ?_
  refine l_aload_n hL dL_law_319 0 rfl ?_
  refine l_iload_n hL dL_law_320 3 rfl ?_
  refine l_iconst (v := 2) hL dL_law_321 (by decide) ?_
  refine l_iadd hL dL_law_322 ?_
  refine l_sld hL hx2 dL_law_323 ?_
  refine l_cC (As := [.int (xs (Int32.toNatClampNeg (x3 + 1))), .int (xs (Int32.toNatClampNeg (x3 + 2)))]) (rest := []) hL (c_X5_leads hC) yv_X5_leads ml_RL_36 ⟨by decide, by decide, rfl, rfl⟩ rfl rfl (Nat.le_of_ble_eq_true rfl) dL_law_324 ?_
  refine l_aload_n hL dL_law_327 2 rfl ?_
  refine l_aload_n hL dL_law_328 0 rfl ?_
  refine l_iload_n hL dL_law_329 3 rfl ?_
  refine l_iconst (v := 1) hL dL_law_330 (by decide) ?_
  refine l_iadd hL dL_law_331 ?_
  refine l_sld hL hx1 dL_law_332 ?_
  refine l_aload_n hL dL_law_333 0 rfl ?_
  refine l_iload_n hL dL_law_334 3 rfl ?_
  refine l_iconst (v := 2) hL dL_law_335 (by decide) ?_
  refine l_iadd hL dL_law_336 ?_
  refine l_sld hL hx2 dL_law_337 ?_
  refine l_cM (As := [.int (xs (Int32.toNatClampNeg (x3 + 1))), .int (xs (Int32.toNatClampNeg (x3 + 2)))]) (rest := [.int r]) hL (c_X6_leads hM) yv_X6_leads ml_RL_39 ⟨by decide, by decide, rfl, rfl⟩ rfl rfl (Nat.le_of_ble_eq_true rfl) dL_law_338 ?_
  refine l_eqT (tgt := 1339) hL dL_law_341 (by decide) ?_
  exact kk _ _ hr
def op_at (N : Nat) (RR : zS → zS → Prop) (uc um : zS) (a0 : Int32) : Prop := ∃ (r : Int32), f_X5_at uc a0 = some r ∧ f_X6_at um a0 = some r ∧ RR uc um
set_option maxHeartbeats 4000000 in
set_option maxRecDepth 100000 in
theorem lc_at {l : Launch} {g : ClassId × ClassId × va_G} {X : zX} {b L : Nat} {xs : Nat → Int32} {aC aM : Nat → Nat} {uc um : zS} {x3 : Int32} {N : Nat} {RR : zS → zS → Prop} (hL : lC g X b L xs) (hx1 : vp_in (x3 + 1) L) (ho : op_at N RR uc um (xs (Int32.toNatClampNeg (x3 + 1)))) (kk : ∀ uc' um' : zS, RR uc' um' → lW l g X aC aM uc' um' 1339 [(0, .ref b), (1, .ref (aC 0)), (2, .ref (aM 0)), (3, .int x3)] []) : lW l g X aC aM uc um 346 [(0, .ref b), (1, .ref (aC 0)), (2, .ref (aM 0)), (3, .int x3)] [] := by
  obtain ⟨r, hC, hM, hr⟩ := ho
  refine l_aload_n hL dL_law_346 1 rfl ?_
  refine l_aload_n hL dL_law_347 0 rfl ?_
  refine l_iload_n hL dL_law_348 3 rfl ?_
  refine l_iconst (v := 1) hL dL_law_349 (by decide) ?_
  refine l_iadd hL dL_law_350 ?_
  refine l_sld hL hx1 dL_law_351 ?_
  refine l_cC (As := [.int (xs (Int32.toNatClampNeg (x3 + 1)))]) (rest := []) hL (c_X5_at hC) yv_X5_at ml_RL_40 ⟨by decide, by decide, rfl, rfl⟩ rfl rfl (Nat.le_of_ble_eq_true rfl) dL_law_352 ?_
  refine l_aload_n hL dL_law_355 2 rfl ?_
  refine l_aload_n hL dL_law_356 0 rfl ?_
  refine l_iload_n hL dL_law_357 3 rfl ?_
  refine l_iconst (v := 1) hL dL_law_358 (by decide) ?_
  refine l_iadd hL dL_law_359 ?_
  refine l_sld hL hx1 dL_law_360 ?_
  refine l_cM (As := [.int (xs (Int32.toNatClampNeg (x3 + 1)))]) (rest := [.int r]) hL (c_X6_at hM) yv_X6_at ml_RL_43 ⟨by decide, by decide, rfl, rfl⟩ rfl rfl (Nat.le_of_ble_eq_true rfl) dL_law_361 ?_
  refine l_eqT (tgt := 1339) hL dL_law_364 (by decide) ?_
  exact kk _ _ hr
def op_seen (N : Nat) (RR : zS → zS → Prop) (uc um : zS) (a0 : Int32) : Prop := ∃ (r : Int32), f_X5_seen N uc a0 = some r ∧ f_X6_seen N um a0 = some r ∧ RR uc um
set_option maxHeartbeats 4000000 in
set_option maxRecDepth 100000 in
theorem lc_seen {l : Launch} {g : ClassId × ClassId × va_G} {X : zX} {b L : Nat} {xs : Nat → Int32} {aC aM : Nat → Nat} {uc um : zS} {x3 : Int32} {N : Nat} {RR : zS → zS → Prop} (hL : lC g X b L xs) (hx1 : vp_in (x3 + 1) L) (ho : op_seen N RR uc um (xs (Int32.toNatClampNeg (x3 + 1)))) (kk : ∀ uc' um' : zS, RR uc' um' → lW l g X aC aM uc' um' 1339 [(0, .ref b), (1, .ref (aC 0)), (2, .ref (aM 0)), (3, .int x3)] []) : lW l g X aC aM uc um 369 [(0, .ref b), (1, .ref (aC 0)), (2, .ref (aM 0)), (3, .int x3)] [] := by
  obtain ⟨r, hC, hM, hr⟩ := ho
  refine l_aload_n hL dL_law_369 1 rfl ?_
  refine l_aload_n hL dL_law_370 0 rfl ?_
  refine l_iload_n hL dL_law_371 3 rfl ?_
  refine l_iconst (v := 1) hL dL_law_372 (by decide) ?_
  refine l_iadd hL dL_law_373 ?_
  refine l_sld hL hx1 dL_law_374 ?_
  refine l_cC (As := [.int (xs (Int32.toNatClampNeg (x3 + 1)))]) (rest := []) hL (c_X5_seen hC) yv_X5_seen ml_RL_44 ⟨by decide, by decide, rfl, rfl⟩ rfl rfl (Nat.le_of_ble_eq_true rfl) dL_law_375 ?_
  refine l_aload_n hL dL_law_378 2 rfl ?_
  refine l_aload_n hL dL_law_379 0 rfl ?_
  refine l_iload_n hL dL_law_380 3 rfl ?_
  refine l_iconst (v := 1) hL dL_law_381 (by decide) ?_
  refine l_iadd hL dL_law_382 ?_
  refine l_sld hL hx1 dL_law_383 ?_
  refine l_cM (As := [.int (xs (Int32.toNatClampNeg (x3 + 1)))]) (rest := [.int r]) hL (c_X6_seen hM) yv_X6_seen ml_RL_47 ⟨by decide, by decide, rfl, rfl⟩ rfl rfl (Nat.le_of_ble_eq_true rfl) dL_law_384 ?_
  refine l_eqT (tgt := 1339) hL dL_law_387 (by decide) ?_
  exact kk _ _ hr
def op_type (N : Nat) (RR : zS → zS → Prop) (uc um : zS) (a0 : Int32) : Prop := ∃ (r : Int32) (uc' : zS) (um' : zS), f_X5_type uc a0 = some (r, uc') ∧ f_X6_type um a0 = some (r, um') ∧ RR uc' um'
set_option maxHeartbeats 4000000 in
set_option maxRecDepth 100000 in
theorem lc_type {l : Launch} {g : ClassId × ClassId × va_G} {X : zX} {b L : Nat} {xs : Nat → Int32} {aC aM : Nat → Nat} {uc um : zS} {x3 : Int32} {N : Nat} {RR : zS → zS → Prop} (hL : lC g X b L xs) (hx1 : vp_in (x3 + 1) L) (ho : op_type N RR uc um (xs (Int32.toNatClampNeg (x3 + 1)))) (kk : ∀ uc' um' : zS, RR uc' um' → lW l g X aC aM uc' um' 1339 [(0, .ref b), (1, .ref (aC 0)), (2, .ref (aM 0)), (3, .int x3)] []) : lW l g X aC aM uc um 392 [(0, .ref b), (1, .ref (aC 0)), (2, .ref (aM 0)), (3, .int x3)] [] := by
  obtain ⟨r, uc', um', hC, hM, hr⟩ := ho
  refine l_aload_n hL dL_law_392 1 rfl ?_
  refine l_aload_n hL dL_law_393 0 rfl ?_
  refine l_iload_n hL dL_law_394 3 rfl ?_
  refine l_iconst (v := 1) hL dL_law_395 (by decide) ?_
  refine l_iadd hL dL_law_396 ?_
  refine l_sld hL hx1 dL_law_397 ?_
  refine l_cC (As := [.int (xs (Int32.toNatClampNeg (x3 + 1)))]) (rest := []) hL (c_X5_type hC) yv_X5_type ml_RL_48 ⟨by decide, by decide, rfl, rfl⟩ rfl rfl (Nat.le_of_ble_eq_true rfl) dL_law_398 ?_
  refine l_aload_n hL dL_law_401 2 rfl ?_
  refine l_aload_n hL dL_law_402 0 rfl ?_
  refine l_iload_n hL dL_law_403 3 rfl ?_
  refine l_iconst (v := 1) hL dL_law_404 (by decide) ?_
  refine l_iadd hL dL_law_405 ?_
  refine l_sld hL hx1 dL_law_406 ?_
  refine l_cM (As := [.int (xs (Int32.toNatClampNeg (x3 + 1)))]) (rest := [.int r]) hL (c_X6_type hM) yv_X6_type ml_RL_51 ⟨by decide, by decide, rfl, rfl⟩ rfl rfl (Nat.le_of_ble_eq_true rfl) dL_law_407 ?_
  refine l_eqT (tgt := 1339) hL dL_law_410 (by decide) ?_
  exact kk _ _ hr
def op_ring (N : Nat) (RR : zS → zS → Prop) (uc um : zS) : Prop := ∃ (r : Int32) (uc' : zS) (um' : zS), f_X5_ring N uc = some (r, uc') ∧ f_X6_ring N um = some (r, um') ∧ RR uc' um'
set_option maxHeartbeats 4000000 in
set_option maxRecDepth 100000 in
theorem lc_ring {l : Launch} {g : ClassId × ClassId × va_G} {X : zX} {b L : Nat} {xs : Nat → Int32} {aC aM : Nat → Nat} {uc um : zS} {x3 : Int32} {N : Nat} {RR : zS → zS → Prop} (hL : lC g X b L xs)  (ho : op_ring N RR uc um ) (kk : ∀ uc' um' : zS, RR uc' um' → lW l g X aC aM uc' um' 1339 [(0, .ref b), (1, .ref (aC 0)), (2, .ref (aM 0)), (3, .int x3)] []) : lW l g X aC aM uc um 415 [(0, .ref b), (1, .ref (aC 0)), (2, .ref (aM 0)), (3, .int x3)] [] := by
  obtain ⟨r, uc', um', hC, hM, hr⟩ := ho
  refine l_aload_n hL dL_law_415 1 rfl ?_
  refine l_cC (As := []) (rest := []) hL (c_X5_ring hC) yv_X5_ring ml_RL_52 ⟨by decide, by decide, rfl, rfl⟩ rfl rfl (Nat.le_of_ble_eq_true rfl) dL_law_416 ?_
  refine l_aload_n hL dL_law_419 2 rfl ?_
  refine l_cM (As := []) (rest := [.int r]) hL (c_X6_ring hM) yv_X6_ring ml_RL_55 ⟨by decide, by decide, rfl, rfl⟩ rfl rfl (Nat.le_of_ble_eq_true rfl) dL_law_420 ?_
  refine l_eqT (tgt := 1339) hL dL_law_423 (by decide) ?_
  exact kk _ _ hr
def op_count (N : Nat) (RR : zS → zS → Prop) (uc um : zS) (a0 : Int32) : Prop := ∃ (r : Int32), f_X5_count N uc a0 = some r ∧ f_X6_count N um a0 = some r ∧ RR uc um
set_option maxHeartbeats 4000000 in
set_option maxRecDepth 100000 in
theorem lc_count {l : Launch} {g : ClassId × ClassId × va_G} {X : zX} {b L : Nat} {xs : Nat → Int32} {aC aM : Nat → Nat} {uc um : zS} {x3 : Int32} {N : Nat} {RR : zS → zS → Prop} (hL : lC g X b L xs) (hx1 : vp_in (x3 + 1) L) (ho : op_count N RR uc um (xs (Int32.toNatClampNeg (x3 + 1)))) (kk : ∀ uc' um' : zS, RR uc' um' → lW l g X aC aM uc' um' 1339 [(0, .ref b), (1, .ref (aC 0)), (2, .ref (aM 0)), (3, .int x3)] []) : lW l g X aC aM uc um 428 [(0, .ref b), (1, .ref (aC 0)), (2, .ref (aM 0)), (3, .int x3)] [] := by
  obtain ⟨r, hC, hM, hr⟩ := ho
  refine l_aload_n hL dL_law_428 1 rfl ?_
  refine l_aload_n hL dL_law_429 0 rfl ?_
  refine l_iload_n hL dL_law_430 3 rfl ?_
  refine l_iconst (v := 1) hL dL_law_431 (by decide) ?_
  refine l_iadd hL dL_law_432 ?_
  refine l_sld hL hx1 dL_law_433 ?_
  refine l_cC (As := [.int (xs (Int32.toNatClampNeg (x3 + 1)))]) (rest := []) hL (c_X5_count hC) yv_X5_count ml_RL_56 ⟨by decide, by decide, rfl, rfl⟩ rfl rfl (Nat.le_of_ble_eq_true rfl) dL_law_434 ?_
  refine l_aload_n hL dL_law_437 2 rfl ?_
  refine l_aload_n hL dL_law_438 0 rfl ?_
  refine l_iload_n hL dL_law_439 3 rfl ?_
  refine l_iconst (v := 1) hL dL_law_440 (by decide) ?_
  refine l_iadd hL dL_law_441 ?_
  refine l_sld hL hx1 dL_law_442 ?_
  refine l_cM (As := [.int (xs (Int32.toNatClampNeg (x3 + 1)))]) (rest := [.int r]) hL (c_X6_count hM) yv_X6_count ml_RL_59 ⟨by decide, by decide, rfl, rfl⟩ rfl rfl (Nat.le_of_ble_eq_true rfl) dL_law_443 ?_
  refine l_eqT (tgt := 1339) hL dL_law_446 (by decide) ?_
  exact kk _ _ hr
def op_beats (N : Nat) (RR : zS → zS → Prop) (uc um : zS) (a0 : Int32) : Prop := ∃ (r : Int32) (uc' : zS) (um' : zS), f_X5_beats N uc a0 = some (r, uc') ∧ f_X6_beats N um a0 = some (r, um') ∧ RR uc' um'
set_option maxHeartbeats 4000000 in
set_option maxRecDepth 100000 in
theorem lc_beats {l : Launch} {g : ClassId × ClassId × va_G} {X : zX} {b L : Nat} {xs : Nat → Int32} {aC aM : Nat → Nat} {uc um : zS} {x3 : Int32} {N : Nat} {RR : zS → zS → Prop} (hL : lC g X b L xs) (hx1 : vp_in (x3 + 1) L) (ho : op_beats N RR uc um (xs (Int32.toNatClampNeg (x3 + 1)))) (kk : ∀ uc' um' : zS, RR uc' um' → lW l g X aC aM uc' um' 1339 [(0, .ref b), (1, .ref (aC 0)), (2, .ref (aM 0)), (3, .int x3)] []) : lW l g X aC aM uc um 451 [(0, .ref b), (1, .ref (aC 0)), (2, .ref (aM 0)), (3, .int x3)] [] := by
  obtain ⟨r, uc', um', hC, hM, hr⟩ := ho
  refine l_aload_n hL dL_law_451 1 rfl ?_
  refine l_aload_n hL dL_law_452 0 rfl ?_
  refine l_iload_n hL dL_law_453 3 rfl ?_
  refine l_iconst (v := 1) hL dL_law_454 (by decide) ?_
  refine l_iadd hL dL_law_455 ?_
  refine l_sld hL hx1 dL_law_456 ?_
  refine l_cC (As := [.int (xs (Int32.toNatClampNeg (x3 + 1)))]) (rest := []) hL (c_X5_beats hC) yv_X5_beats ml_RL_60 ⟨by decide, by decide, rfl, rfl⟩ rfl rfl (Nat.le_of_ble_eq_true rfl) dL_law_457 ?_
  refine l_aload_n hL dL_law_460 2 rfl ?_
  refine l_aload_n hL dL_law_461 0 rfl ?_
  refine l_iload_n hL dL_law_462 3 rfl ?_
  refine l_iconst (v := 1) hL dL_law_463 (by decide) ?_
  refine l_iadd hL dL_law_464 ?_
  refine l_sld hL hx1 dL_law_465 ?_
  refine l_cM (As := [.int (xs (Int32.toNatClampNeg (x3 + 1)))]) (rest := [.int r]) hL (c_X6_beats hM) yv_X6_beats ml_RL_63 ⟨by decide, by decide, rfl, rfl⟩ rfl rfl (Nat.le_of_ble_eq_true rfl) dL_law_466 ?_
  refine l_eqT (tgt := 1339) hL dL_law_469 (by decide) ?_
  exact kk _ _ hr
def op_draught (N : Nat) (RR : zS → zS → Prop) (uc um : zS) (a0 : Int32) : Prop := ∃ (r : Int32) (uc' : zS) (um' : zS), f_X5_draught N uc a0 = some (r, uc') ∧ f_X6_draught N um a0 = some (r, um') ∧ RR uc' um'
set_option maxHeartbeats 4000000 in
set_option maxRecDepth 100000 in
theorem lc_draught {l : Launch} {g : ClassId × ClassId × va_G} {X : zX} {b L : Nat} {xs : Nat → Int32} {aC aM : Nat → Nat} {uc um : zS} {x3 : Int32} {N : Nat} {RR : zS → zS → Prop} (hL : lC g X b L xs) (hx1 : vp_in (x3 + 1) L) (ho : op_draught N RR uc um (xs (Int32.toNatClampNeg (x3 + 1)))) (kk : ∀ uc' um' : zS, RR uc' um' → lW l g X aC aM uc' um' 1339 [(0, .ref b), (1, .ref (aC 0)), (2, .ref (aM 0)), (3, .int x3)] []) : lW l g X aC aM uc um 474 [(0, .ref b), (1, .ref (aC 0)), (2, .ref (aM 0)), (3, .int x3)] [] := by
  obtain ⟨r, uc', um', hC, hM, hr⟩ := ho
  refine l_aload_n hL dL_law_474 1 rfl ?_
  refine l_aload_n hL dL_law_475 0 rfl ?_
  refine l_iload_n hL dL_law_476 3 rfl ?_
  refine l_iconst (v := 1) hL dL_law_477 (by decide) ?_
  refine l_iadd hL dL_law_478 ?_
  refine l_sld hL hx1 dL_law_479 ?_
  refine l_cC (As := [.int (xs (Int32.toNatClampNeg (x3 + 1)))]) (rest := []) hL (c_X5_draught hC) yv_X5_draught ml_RL_64 ⟨by decide, by decide, rfl, rfl⟩ rfl rfl (Nat.le_of_ble_eq_true rfl) dL_law_480 ?_
  refine l_aload_n hL dL_law_483 2 rfl ?_
  refine l_aload_n hL dL_law_484 0 rfl ?_
  refine l_iload_n hL dL_law_485 3 rfl ?_
  refine l_iconst (v := 1) hL dL_law_486 (by decide) ?_
  refine l_iadd hL dL_law_487 ?_
  refine l_sld hL hx1 dL_law_488 ?_
  refine l_cM (As := [.int (xs (Int32.toNatClampNeg (x3 + 1)))]) (rest := [.int r]) hL (c_X6_draught hM) yv_X6_draught ml_RL_67 ⟨by decide, by decide, rfl, rfl⟩ rfl rfl (Nat.le_of_ble_eq_true rfl) dL_law_489 ?_
  refine l_eqT (tgt := 1339) hL dL_law_492 (by decide) ?_
  exact kk _ _ hr
def op_leave (N : Nat) (RR : zS → zS → Prop) (uc um : zS) (a0 : Int32) : Prop := ∃ (r : Int32) (uc' : zS) (um' : zS), f_X5_leave uc a0 = some (r, uc') ∧ f_X6_leave N um a0 = some (r, um') ∧ RR uc' um'
set_option maxHeartbeats 4000000 in
set_option maxRecDepth 100000 in
theorem lc_leave {l : Launch} {g : ClassId × ClassId × va_G} {X : zX} {b L : Nat} {xs : Nat → Int32} {aC aM : Nat → Nat} {uc um : zS} {x3 : Int32} {N : Nat} {RR : zS → zS → Prop} (hL : lC g X b L xs) (hx1 : vp_in (x3 + 1) L) (ho : op_leave N RR uc um (xs (Int32.toNatClampNeg (x3 + 1)))) (kk : ∀ uc' um' : zS, RR uc' um' → lW l g X aC aM uc' um' 1339 [(0, .ref b), (1, .ref (aC 0)), (2, .ref (aM 0)), (3, .int x3)] []) : lW l g X aC aM uc um 497 [(0, .ref b), (1, .ref (aC 0)), (2, .ref (aM 0)), (3, .int x3)] [] := by
  obtain ⟨r, uc', um', hC, hM, hr⟩ := ho
  refine l_aload_n hL dL_law_497 1 rfl ?_
  refine l_aload_n hL dL_law_498 0 rfl ?_
  refine l_iload_n hL dL_law_499 3 rfl ?_
  refine l_iconst (v := 1) hL dL_law_500 (by decide) ?_
  refine l_iadd hL dL_law_501 ?_
  refine l_sld hL hx1 dL_law_502 ?_
  refine l_cC (As := [.int (xs (Int32.toNatClampNeg (x3 + 1)))]) (rest := []) hL (c_X5_leave hC) yv_X5_leave ml_RL_68 ⟨by decide, by decide, rfl, rfl⟩ rfl rfl (Nat.le_of_ble_eq_true rfl) dL_law_503 ?_
  refine l_aload_n hL dL_law_506 2 rfl ?_
  refine l_aload_n hL dL_law_507 0 rfl ?_
  refine l_iload_n hL dL_law_508 3 rfl ?_
  refine l_iconst (v := 1) hL dL_law_509 (by decide) ?_
  refine l_iadd hL dL_law_510 ?_
  refine l_sld hL hx1 dL_law_511 ?_
  refine l_cM (As := [.int (xs (Int32.toNatClampNeg (x3 + 1)))]) (rest := [.int r]) hL (c_X6_leave hM) yv_X6_leave ml_RL_71 ⟨by decide, by decide, rfl, rfl⟩ rfl rfl (Nat.le_of_ble_eq_true rfl) dL_law_512 ?_
  refine l_eqT (tgt := 1339) hL dL_law_515 (by decide) ?_
  exact kk _ _ hr
def op_come (N : Nat) (RR : zS → zS → Prop) (uc um : zS) (a0 : Int32) (a1 : Int32) : Prop := ∃ (r : Int32) (uc' : zS) (um' : zS), f_X5_come N uc a0 a1 = some (r, uc') ∧ f_X6_come N um a0 a1 = some (r, um') ∧ RR uc' um'
set_option maxHeartbeats 4000000 in
set_option maxRecDepth 100000 in
theorem lc_come {l : Launch} {g : ClassId × ClassId × va_G} {X : zX} {b L : Nat} {xs : Nat → Int32} {aC aM : Nat → Nat} {uc um : zS} {x3 : Int32} {N : Nat} {RR : zS → zS → Prop} (hL : lC g X b L xs) (hx1 : vp_in (x3 + 1) L) (hx2 : vp_in (x3 + 2) L) (ho : op_come N RR uc um (xs (Int32.toNatClampNeg (x3 + 1))) (xs (Int32.toNatClampNeg (x3 + 2)))) (kk : ∀ uc' um' : zS, RR uc' um' → lW l g X aC aM uc' um' 1339 [(0, .ref b), (1, .ref (aC 0)), (2, .ref (aM 0)), (3, .int x3)] []) : lW l g X aC aM uc um 520 [(0, .ref b), (1, .ref (aC 0)), (2, .ref (aM 0)), (3, .int x3)] [] := by
  obtain ⟨r, uc', um', hC, hM, hr⟩ := ho
  refine l_aload_n hL dL_law_520 1 rfl ?_
  refine l_aload_n hL dL_law_521 0 rfl ?_
  refine l_iload_n hL dL_law_522 3 rfl ?_
  refine l_iconst (v := 1) hL dL_law_523 (by decide) ?_
  refine l_iadd hL dL_law_524 ?_
  refine l_sld hL hx1 dL_law_525 ?_
  refine l_aload_n hL dL_law_526 0 rfl ?_
  refine l_iload_n hL dL_law_527 3 rfl ?_
  refine l_iconst (v := 2) hL dL_law_528 (by decide) ?_
  refine l_iadd hL dL_law_529 ?_
  refine l_sld hL hx2 dL_law_530 ?_
  refine l_cC (As := [.int (xs (Int32.toNatClampNeg (x3 + 1))), .int (xs (Int32.toNatClampNeg (x3 + 2)))]) (rest := []) hL (c_X5_come hC) yv_X5_come ml_RL_72 ⟨by decide, by decide, rfl, rfl⟩ rfl rfl (Nat.le_of_ble_eq_true rfl) dL_law_531 ?_
  refine l_aload_n hL dL_law_534 2 rfl ?_
  refine l_aload_n hL dL_law_535 0 rfl ?_
  refine l_iload_n hL dL_law_536 3 rfl ?_
  refine l_iconst (v := 1) hL dL_law_537 (by decide) ?_
  refine l_iadd hL dL_law_538 ?_
  refine l_sld hL hx1 dL_law_539 ?_
  refine l_aload_n hL dL_law_540 0 rfl ?_
  refine l_iload_n hL dL_law_541 3 rfl ?_
  refine l_iconst (v := 2) hL dL_law_542 (by decide) ?_
  refine l_iadd hL dL_law_543 ?_
  refine l_sld hL hx2 dL_law_544 ?_
  refine l_cM (As := [.int (xs (Int32.toNatClampNeg (x3 + 1))), .int (xs (Int32.toNatClampNeg (x3 + 2)))]) (rest := [.int r]) hL (c_X6_come hM) yv_X6_come ml_RL_75 ⟨by decide, by decide, rfl, rfl⟩ rfl rfl (Nat.le_of_ble_eq_true rfl) dL_law_545 ?_
  refine l_eqT (tgt := 1339) hL dL_law_548 (by decide) ?_
  exact kk _ _ hr
def op_drift (N : Nat) (RR : zS → zS → Prop) (uc um : zS) (a0 : Int32) : Prop := ∃ (r : Int32) (uc' : zS) (um' : zS), f_X5_drift N uc a0 = some (r, uc') ∧ f_X6_drift N um a0 = some (r, um') ∧ RR uc' um'
set_option maxHeartbeats 4000000 in
set_option maxRecDepth 100000 in
theorem lc_drift {l : Launch} {g : ClassId × ClassId × va_G} {X : zX} {b L : Nat} {xs : Nat → Int32} {aC aM : Nat → Nat} {uc um : zS} {x3 : Int32} {N : Nat} {RR : zS → zS → Prop} (hL : lC g X b L xs) (hx1 : vp_in (x3 + 1) L) (ho : op_drift N RR uc um (xs (Int32.toNatClampNeg (x3 + 1)))) (kk : ∀ uc' um' : zS, RR uc' um' → lW l g X aC aM uc' um' 1339 [(0, .ref b), (1, .ref (aC 0)), (2, .ref (aM 0)), (3, .int x3)] []) : lW l g X aC aM uc um 553 [(0, .ref b), (1, .ref (aC 0)), (2, .ref (aM 0)), (3, .int x3)] [] := by
  obtain ⟨r, uc', um', hC, hM, hr⟩ := ho
  refine l_aload_n hL dL_law_553 1 rfl ?_
  refine l_aload_n hL dL_law_554 0 rfl ?_
  refine l_iload_n hL dL_law_555 3 rfl ?_
  refine l_iconst (v := 1) hL dL_law_556 (by decide) ?_
  refine l_iadd hL dL_law_557 ?_
  refine l_sld hL hx1 dL_law_558 ?_
  refine l_cC (As := [.int (xs (Int32.toNatClampNeg (x3 + 1)))]) (rest := []) hL (c_X5_drift hC) yv_X5_drift ml_RL_76 ⟨by decide, by decide, rfl, rfl⟩ rfl rfl (Nat.le_of_ble_eq_true rfl) dL_law_559 ?_
  refine l_aload_n hL dL_law_562 2 rfl ?_
  refine l_aload_n hL dL_law_563 0 rfl ?_
  refine l_iload_n hL dL_law_564 3 rfl ?_
  refine l_iconst (v := 1) hL dL_law_565 (by decide) ?_
  refine l_iadd hL dL_law_566 ?_
  refine l_sld hL hx1 dL_law_567 ?_
  refine l_cM (As := [.int (xs (Int32.toNatClampNeg (x3 + 1)))]) (rest := [.int r]) hL (c_X6_drift hM) yv_X6_drift ml_RL_79 ⟨by decide, by decide, rfl, rfl⟩ rfl rfl (Nat.le_of_ble_eq_true rfl) dL_law_568 ?_
  refine l_eqT (tgt := 1339) hL dL_law_571 (by decide) ?_
  exact kk _ _ hr
def op_undo (N : Nat) (RR : zS → zS → Prop) (uc um : zS) : Prop := ∃ (r : Int32) (uc' : zS) (um' : zS), f_X5_undo uc = some (r, uc') ∧ f_X6_undo N um = some (r, um') ∧ RR uc' um'
set_option maxHeartbeats 4000000 in
set_option maxRecDepth 100000 in
theorem lc_undo {l : Launch} {g : ClassId × ClassId × va_G} {X : zX} {b L : Nat} {xs : Nat → Int32} {aC aM : Nat → Nat} {uc um : zS} {x3 : Int32} {N : Nat} {RR : zS → zS → Prop} (hL : lC g X b L xs)  (ho : op_undo N RR uc um ) (kk : ∀ uc' um' : zS, RR uc' um' → lW l g X aC aM uc' um' 1339 [(0, .ref b), (1, .ref (aC 0)), (2, .ref (aM 0)), (3, .int x3)] []) : lW l g X aC aM uc um 576 [(0, .ref b), (1, .ref (aC 0)), (2, .ref (aM 0)), (3, .int x3)] [] := by
  obtain ⟨r, uc', um', hC, hM, hr⟩ := ho
  refine l_aload_n hL dL_law_576 1 rfl ?_
  refine l_cC (As := []) (rest := []) hL (c_X5_undo hC) yv_X5_undo ml_RL_80 ⟨by decide, by decide, rfl, rfl⟩ rfl rfl (Nat.le_of_ble_eq_true rfl) dL_law_577 ?_
  refine l_aload_n hL dL_law_580 2 rfl ?_
  refine l_cM (As := []) (rest := [.int r]) hL (c_X6_undo hM) yv_X6_undo ml_RL_83 ⟨by decide, by decide, rfl, rfl⟩ rfl rfl (Nat.le_of_ble_eq_true rfl) dL_law_581 ?_
  refine l_eqT (tgt := 1339) hL dL_law_584 (by decide) ?_
  exact kk _ _ hr
def op_seed (N : Nat) (RR : zS → zS → Prop) (uc um : zS) (a0 : Int32) : Prop := ∃ (r : Int32) (uc' : zS) (um' : zS), f_X5_seed uc a0 = (r, uc') ∧ f_X6_seed um a0 = (r, um') ∧ RR uc' um'
set_option maxHeartbeats 4000000 in
set_option maxRecDepth 100000 in
theorem lc_seed {l : Launch} {g : ClassId × ClassId × va_G} {X : zX} {b L : Nat} {xs : Nat → Int32} {aC aM : Nat → Nat} {uc um : zS} {x3 : Int32} {N : Nat} {RR : zS → zS → Prop} (hL : lC g X b L xs) (hx1 : vp_in (x3 + 1) L) (ho : op_seed N RR uc um (xs (Int32.toNatClampNeg (x3 + 1)))) (kk : ∀ uc' um' : zS, RR uc' um' → lW l g X aC aM uc' um' 1339 [(0, .ref b), (1, .ref (aC 0)), (2, .ref (aM 0)), (3, .int x3)] []) : lW l g X aC aM uc um 589 [(0, .ref b), (1, .ref (aC 0)), (2, .ref (aM 0)), (3, .int x3)] [] := by
  obtain ⟨r, uc', um', hC, hM, hr⟩ := ho
  refine l_aload_n hL dL_law_589 1 rfl ?_
  refine l_aload_n hL dL_law_590 0 rfl ?_
  refine l_iload_n hL dL_law_591 3 rfl ?_
  refine l_iconst (v := 1) hL dL_law_592 (by decide) ?_
  refine l_iadd hL dL_law_593 ?_
  refine l_sld hL hx1 dL_law_594 ?_
  refine l_cC (As := [.int (xs (Int32.toNatClampNeg (x3 + 1)))]) (rest := []) hL (c_X5_seed hC) yv_X5_seed ml_RL_84 ⟨by decide, by decide, rfl, rfl⟩ rfl rfl (Nat.le_of_ble_eq_true rfl) dL_law_595 ?_
  refine l_aload_n hL dL_law_598 2 rfl ?_
  refine l_aload_n hL dL_law_599 0 rfl ?_
  refine l_iload_n hL dL_law_600 3 rfl ?_
  refine l_iconst (v := 1) hL dL_law_601 (by decide) ?_
  refine l_iadd hL dL_law_602 ?_
  refine l_sld hL hx1 dL_law_603 ?_
  refine l_cM (As := [.int (xs (Int32.toNatClampNeg (x3 + 1)))]) (rest := [.int r]) hL (c_X6_seed hM) yv_X6_seed ml_RL_87 ⟨by decide, by decide, rfl, rfl⟩ rfl rfl (Nat.le_of_ble_eq_true rfl) dL_law_604 ?_
  refine l_eqT (tgt := 1339) hL dL_law_607 (by decide) ?_
  exact kk _ _ hr
def op_ahead (N : Nat) (RR : zS → zS → Prop) (uc um : zS) (a0 : Int32) (a1 : Int32) : Prop := ∃ (r : Int32), f_X5_ahead N uc a0 a1 = some r ∧ f_X6_ahead N um a0 a1 = some r ∧ RR uc um
set_option maxHeartbeats 4000000 in
set_option maxRecDepth 100000 in
theorem lc_ahead {l : Launch} {g : ClassId × ClassId × va_G} {X : zX} {b L : Nat} {xs : Nat → Int32} {aC aM : Nat → Nat} {uc um : zS} {x3 : Int32} {N : Nat} {RR : zS → zS → Prop} (hL : lC g X b L xs) (hx1 : vp_in (x3 + 1) L) (hx2 : vp_in (x3 + 2) L) (ho : op_ahead N RR uc um (xs (Int32.toNatClampNeg (x3 + 1))) (xs (Int32.toNatClampNeg (x3 + 2)))) (kk : ∀ uc' um' : zS, RR uc' um' → lW l g X aC aM uc' um' 1339 [(0, .ref b), (1, .ref (aC 0)), (2, .ref (aM 0)), (3, .int x3)] []) : lW l g X aC aM uc um 612 [(0, .ref b), (1, .ref (aC 0)), (2, .ref (aM 0)), (3, .int x3)] [] := by
  obtain ⟨r, hC, hM, hr⟩ := ho
  refine l_aload_n hL dL_law_612 1 rfl ?_
  refine l_aload_n hL dL_law_613 0 rfl ?_
  refine l_iload_n hL dL_law_614 3 rfl ?_
  refine l_iconst (v := 1) hL dL_law_615 (by decide) ?_
  refine l_iadd hL dL_law_616 ?_
  refine l_sld hL hx1 dL_law_617 ?_
  refine l_aload_n hL dL_law_618 0 rfl ?_
  refine l_iload_n hL dL_law_619 3 rfl ?_
  refine l_iconst (v := 2) hL dL_law_620 (by decide) ?_
  refine l_iadd hL dL_law_621 ?_
  refine l_sld hL hx2 dL_law_622 ?_
  refine l_cC (As := [.int (xs (Int32.toNatClampNeg (x3 + 1))), .int (xs (Int32.toNatClampNeg (x3 + 2)))]) (rest := []) hL (c_X5_ahead hC) yv_X5_ahead ml_RL_88 ⟨by decide, by decide, rfl, rfl⟩ rfl rfl (Nat.le_of_ble_eq_true rfl) dL_law_623 ?_
  refine l_aload_n hL dL_law_626 2 rfl ?_
  refine l_aload_n hL dL_law_627 0 rfl ?_
  refine l_iload_n hL dL_law_628 3 rfl ?_
  refine l_iconst (v := 1) hL dL_law_629 (by decide) ?_
  refine l_iadd hL dL_law_630 ?_
  refine l_sld hL hx1 dL_law_631 ?_
  refine l_aload_n hL dL_law_632 0 rfl ?_
  refine l_iload_n hL dL_law_633 3 rfl ?_
  refine l_iconst (v := 2) hL dL_law_634 (by decide) ?_
  refine l_iadd hL dL_law_635 ?_
  refine l_sld hL hx2 dL_law_636 ?_
  refine l_cM (As := [.int (xs (Int32.toNatClampNeg (x3 + 1))), .int (xs (Int32.toNatClampNeg (x3 + 2)))]) (rest := [.int r]) hL (c_X6_ahead hM) yv_X6_ahead ml_RL_91 ⟨by decide, by decide, rfl, rfl⟩ rfl rfl (Nat.le_of_ble_eq_true rfl) dL_law_637 ?_
  refine l_eqT (tgt := 1339) hL dL_law_640 (by decide) ?_
  exact kk _ _ hr
def op_then (N : Nat) (RR : zS → zS → Prop) (uc um : zS) (a0 : Int32) (a1 : Int32) (a2 : Int32) : Prop := ∃ (r : Int32), f_X5_then N uc a0 a1 a2 = some r ∧ f_X6_then N um a0 a1 a2 = some r ∧ RR uc um
set_option maxHeartbeats 4000000 in
set_option maxRecDepth 100000 in
theorem lc_then {l : Launch} {g : ClassId × ClassId × va_G} {X : zX} {b L : Nat} {xs : Nat → Int32} {aC aM : Nat → Nat} {uc um : zS} {x3 : Int32} {N : Nat} {RR : zS → zS → Prop} (hL : lC g X b L xs) (hx1 : vp_in (x3 + 1) L) (hx2 : vp_in (x3 + 2) L) (hx3 : vp_in (x3 + 3) L) (ho : op_then N RR uc um (xs (Int32.toNatClampNeg (x3 + 1))) (xs (Int32.toNatClampNeg (x3 + 2))) (xs (Int32.toNatClampNeg (x3 + 3)))) (kk : ∀ uc' um' : zS, RR uc' um' → lW l g X aC aM uc' um' 1339 [(0, .ref b), (1, .ref (aC 0)), (2, .ref (aM 0)), (3, .int x3)] []) : lW l g X aC aM uc um 645 [(0, .ref b), (1, .ref (aC 0)), (2, .ref (aM 0)), (3, .int x3)] [] := by
  obtain ⟨r, hC, hM, hr⟩ := ho
  refine l_aload_n hL dL_law_645 1 rfl ?_
  refine l_aload_n hL dL_law_646 0 rfl ?_
  refine l_iload_n hL dL_law_647 3 rfl ?_
  refine l_iconst (v := 1) hL dL_law_648 (by decide) ?_
  refine l_iadd hL dL_law_649 ?_
  refine l_sld hL hx1 dL_law_650 ?_
  refine l_aload_n hL dL_law_651 0 rfl ?_
  refine l_iload_n hL dL_law_652 3 rfl ?_
  refine l_iconst (v := 2) hL dL_law_653 (by decide) ?_
  refine l_iadd hL dL_law_654 ?_
  refine l_sld hL hx2 dL_law_655 ?_
  refine l_aload_n hL dL_law_656 0 rfl ?_
  refine l_iload_n hL dL_law_657 3 rfl ?_
  refine l_iconst (v := 3) hL dL_law_658 (by decide) ?_
  refine l_iadd hL dL_law_659 ?_
  refine l_sld hL hx3 dL_law_660 ?_
  refine l_cC (As := [.int (xs (Int32.toNatClampNeg (x3 + 1))), .int (xs (Int32.toNatClampNeg (x3 + 2))), .int (xs (Int32.toNatClampNeg (x3 + 3)))]) (rest := []) hL (c_X5_then hC) yv_X5_then ml_RL_92 ⟨by decide, by decide, rfl, rfl⟩ rfl rfl (Nat.le_of_ble_eq_true rfl) dL_law_661 ?_
  refine l_aload_n hL dL_law_664 2 rfl ?_
  refine l_aload_n hL dL_law_665 0 rfl ?_
  refine l_iload_n hL dL_law_666 3 rfl ?_
  refine l_iconst (v := 1) hL dL_law_667 (by decide) ?_
  refine l_iadd hL dL_law_668 ?_
  refine l_sld hL hx1 dL_law_669 ?_
  refine l_aload_n hL dL_law_670 0 rfl ?_
  refine l_iload_n hL dL_law_671 3 rfl ?_
  refine l_iconst (v := 2) hL dL_law_672 (by decide) ?_
  refine l_iadd hL dL_law_673 ?_
  refine l_sld hL hx2 dL_law_674 ?_
  refine l_aload_n hL dL_law_675 0 rfl ?_
  refine l_iload_n hL dL_law_676 3 rfl ?_
  refine l_iconst (v := 3) hL dL_law_677 (by decide) ?_
  refine l_iadd hL dL_law_678 ?_
  refine l_sld hL hx3 dL_law_679 ?_
  refine l_cM (As := [.int (xs (Int32.toNatClampNeg (x3 + 1))), .int (xs (Int32.toNatClampNeg (x3 + 2))), .int (xs (Int32.toNatClampNeg (x3 + 3)))]) (rest := [.int r]) hL (c_X6_then hM) yv_X6_then ml_RL_96 ⟨by decide, by decide, rfl, rfl⟩ rfl rfl (Nat.le_of_ble_eq_true rfl) dL_law_680 ?_
  refine l_eqT (tgt := 1339) hL dL_law_683 (by decide) ?_
  exact kk _ _ hr
def op_back (N : Nat) (RR : zS → zS → Prop) (uc um : zS) (a0 : Int32) : Prop := ∃ (r : Int32), f_X5_back N uc a0 = some r ∧ f_X6_back N um a0 = some r ∧ RR uc um
set_option maxHeartbeats 4000000 in
set_option maxRecDepth 100000 in
theorem lc_back {l : Launch} {g : ClassId × ClassId × va_G} {X : zX} {b L : Nat} {xs : Nat → Int32} {aC aM : Nat → Nat} {uc um : zS} {x3 : Int32} {N : Nat} {RR : zS → zS → Prop} (hL : lC g X b L xs) (hx1 : vp_in (x3 + 1) L) (ho : op_back N RR uc um (xs (Int32.toNatClampNeg (x3 + 1)))) (kk : ∀ uc' um' : zS, RR uc' um' → lW l g X aC aM uc' um' 1339 [(0, .ref b), (1, .ref (aC 0)), (2, .ref (aM 0)), (3, .int x3)] []) : lW l g X aC aM uc um 688 [(0, .ref b), (1, .ref (aC 0)), (2, .ref (aM 0)), (3, .int x3)] [] := by
  obtain ⟨r, hC, hM, hr⟩ := ho
  refine l_aload_n hL dL_law_688 1 rfl ?_
  refine l_aload_n hL dL_law_689 0 rfl ?_
  refine l_iload_n hL dL_law_690 3 rfl ?_
  refine l_iconst (v := 1) hL dL_law_691 (by decide) ?_
  refine l_iadd hL dL_law_692 ?_
  refine l_sld hL hx1 dL_law_693 ?_
  refine l_cC (As := [.int (xs (Int32.toNatClampNeg (x3 + 1)))]) (rest := []) hL (c_X5_back hC) yv_X5_back ml_RL_97 ⟨by decide, by decide, rfl, rfl⟩ rfl rfl (Nat.le_of_ble_eq_true rfl) dL_law_694 ?_
  refine l_aload_n hL dL_law_697 2 rfl ?_
  refine l_aload_n hL dL_law_698 0 rfl ?_
  refine l_iload_n hL dL_law_699 3 rfl ?_
  refine l_iconst (v := 1) hL dL_law_700 (by decide) ?_
  refine l_iadd hL dL_law_701 ?_
  refine l_sld hL hx1 dL_law_702 ?_
  refine l_cM (As := [.int (xs (Int32.toNatClampNeg (x3 + 1)))]) (rest := [.int r]) hL (c_X6_back hM) yv_X6_back ml_RL_100 ⟨by decide, by decide, rfl, rfl⟩ rfl rfl (Nat.le_of_ble_eq_true rfl) dL_law_703 ?_
  refine l_eqT (tgt := 1339) hL dL_law_706 (by decide) ?_
  exact kk _ _ hr
def op_been (N : Nat) (RR : zS → zS → Prop) (uc um : zS) (a0 : Int32) : Prop := ∃ (r : Int32), f_X5_been N uc a0 = some r ∧ f_X6_been N um a0 = some r ∧ RR uc um
set_option maxHeartbeats 4000000 in
set_option maxRecDepth 100000 in
theorem lc_been {l : Launch} {g : ClassId × ClassId × va_G} {X : zX} {b L : Nat} {xs : Nat → Int32} {aC aM : Nat → Nat} {uc um : zS} {x3 : Int32} {N : Nat} {RR : zS → zS → Prop} (hL : lC g X b L xs) (hx1 : vp_in (x3 + 1) L) (ho : op_been N RR uc um (xs (Int32.toNatClampNeg (x3 + 1)))) (kk : ∀ uc' um' : zS, RR uc' um' → lW l g X aC aM uc' um' 1339 [(0, .ref b), (1, .ref (aC 0)), (2, .ref (aM 0)), (3, .int x3)] []) : lW l g X aC aM uc um 711 [(0, .ref b), (1, .ref (aC 0)), (2, .ref (aM 0)), (3, .int x3)] [] := by
  obtain ⟨r, hC, hM, hr⟩ := ho
  refine l_aload_n hL dL_law_711 1 rfl ?_
  refine l_aload_n hL dL_law_712 0 rfl ?_
  refine l_iload_n hL dL_law_713 3 rfl ?_
  refine l_iconst (v := 1) hL dL_law_714 (by decide) ?_
  refine l_iadd hL dL_law_715 ?_
  refine l_sld hL hx1 dL_law_716 ?_
  refine l_cC (As := [.int (xs (Int32.toNatClampNeg (x3 + 1)))]) (rest := []) hL (c_X5_been hC) yv_X5_been ml_RL_101 ⟨by decide, by decide, rfl, rfl⟩ rfl rfl (Nat.le_of_ble_eq_true rfl) dL_law_717 ?_
  refine l_aload_n hL dL_law_720 2 rfl ?_
  refine l_aload_n hL dL_law_721 0 rfl ?_
  refine l_iload_n hL dL_law_722 3 rfl ?_
  refine l_iconst (v := 1) hL dL_law_723 (by decide) ?_
  refine l_iadd hL dL_law_724 ?_
  refine l_sld hL hx1 dL_law_725 ?_
  refine l_cM (As := [.int (xs (Int32.toNatClampNeg (x3 + 1)))]) (rest := [.int r]) hL (c_X6_been hM) yv_X6_been ml_RL_104 ⟨by decide, by decide, rfl, rfl⟩ rfl rfl (Nat.le_of_ble_eq_true rfl) dL_law_726 ?_
  refine l_eqT (tgt := 1339) hL dL_law_729 (by decide) ?_
  exact kk _ _ hr
def op_shortest (N : Nat) (RR : zS → zS → Prop) (uc um : zS) (a0 : Int32) (a1 : Int32) : Prop := ∃ (r : Int32) (uc' : zS) (um' : zS), f_X5_shortest N uc a0 a1 = some (r, uc') ∧ f_X6_shortest N um a0 a1 = some (r, um') ∧ RR uc' um'
set_option maxHeartbeats 4000000 in
set_option maxRecDepth 100000 in
theorem lc_shortest {l : Launch} {g : ClassId × ClassId × va_G} {X : zX} {b L : Nat} {xs : Nat → Int32} {aC aM : Nat → Nat} {uc um : zS} {x3 : Int32} {N : Nat} {RR : zS → zS → Prop} (hL : lC g X b L xs) (hx1 : vp_in (x3 + 1) L) (hx2 : vp_in (x3 + 2) L) (ho : op_shortest N RR uc um (xs (Int32.toNatClampNeg (x3 + 1))) (xs (Int32.toNatClampNeg (x3 + 2)))) (kk : ∀ uc' um' : zS, RR uc' um' → lW l g X aC aM uc' um' 1339 [(0, .ref b), (1, .ref (aC 0)), (2, .ref (aM 0)), (3, .int x3)] []) : lW l g X aC aM uc um 734 [(0, .ref b), (1, .ref (aC 0)), (2, .ref (aM 0)), (3, .int x3)] [] := by
  obtain ⟨r, uc', um', hC, hM, hr⟩ := ho
  refine l_aload_n hL dL_law_734 1 rfl ?_
  refine l_aload_n hL dL_law_735 0 rfl ?_
  refine l_iload_n hL dL_law_736 3 rfl ?_
  refine l_iconst (v := 1) hL dL_law_737 (by decide) ?_
  refine l_iadd hL dL_law_738 ?_
  refine l_sld hL hx1 dL_law_739 ?_
  refine l_aload_n hL dL_law_740 0 rfl ?_
  refine l_iload_n hL dL_law_741 3 rfl ?_
  refine l_iconst (v := 2) hL dL_law_742 (by decide) ?_
  refine l_iadd hL dL_law_743 ?_
  refine l_sld hL hx2 dL_law_744 ?_
  refine l_cC (As := [.int (xs (Int32.toNatClampNeg (x3 + 1))), .int (xs (Int32.toNatClampNeg (x3 + 2)))]) (rest := []) hL (c_X5_shortest hC) yv_X5_shortest ml_RL_105 ⟨by decide, by decide, rfl, rfl⟩ rfl rfl (Nat.le_of_ble_eq_true rfl) dL_law_745 ?_
  refine l_aload_n hL dL_law_748 2 rfl ?_
  refine l_aload_n hL dL_law_749 0 rfl ?_
  refine l_iload_n hL dL_law_750 3 rfl ?_
  refine l_iconst (v := 1) hL dL_law_751 (by decide) ?_
  refine l_iadd hL dL_law_752 ?_
  refine l_sld hL hx1 dL_law_753 ?_
  refine l_aload_n hL dL_law_754 0 rfl ?_
  refine l_iload_n hL dL_law_755 3 rfl ?_
  refine l_iconst (v := 2) hL dL_law_756 (by decide) ?_
  refine l_iadd hL dL_law_757 ?_
  refine l_sld hL hx2 dL_law_758 ?_
  refine l_cM (As := [.int (xs (Int32.toNatClampNeg (x3 + 1))), .int (xs (Int32.toNatClampNeg (x3 + 2)))]) (rest := [.int r]) hL (c_X6_shortest hM) yv_X6_shortest ml_RL_108 ⟨by decide, by decide, rfl, rfl⟩ rfl rfl (Nat.le_of_ble_eq_true rfl) dL_law_759 ?_
  refine l_eqT (tgt := 1339) hL dL_law_762 (by decide) ?_
  exact kk _ _ hr
def op_sorts (N : Nat) (RR : zS → zS → Prop) (uc um : zS) : Prop := ∃ (r : Int32) (uc' : zS) (um' : zS), f_X5_sorts N uc = some (r, uc') ∧ f_X6_sorts N um = some (r, um') ∧ RR uc' um'
set_option maxHeartbeats 4000000 in
set_option maxRecDepth 100000 in
theorem lc_sorts {l : Launch} {g : ClassId × ClassId × va_G} {X : zX} {b L : Nat} {xs : Nat → Int32} {aC aM : Nat → Nat} {uc um : zS} {x3 : Int32} {N : Nat} {RR : zS → zS → Prop} (hL : lC g X b L xs)  (ho : op_sorts N RR uc um ) (kk : ∀ uc' um' : zS, RR uc' um' → lW l g X aC aM uc' um' 1339 [(0, .ref b), (1, .ref (aC 0)), (2, .ref (aM 0)), (3, .int x3)] []) : lW l g X aC aM uc um 767 [(0, .ref b), (1, .ref (aC 0)), (2, .ref (aM 0)), (3, .int x3)] [] := by
  obtain ⟨r, uc', um', hC, hM, hr⟩ := ho
  refine l_aload_n hL dL_law_767 1 rfl ?_
  refine l_cC (As := []) (rest := []) hL (c_X5_sorts hC) yv_X5_sorts ml_RL_109 ⟨by decide, by decide, rfl, rfl⟩ rfl rfl (Nat.le_of_ble_eq_true rfl) dL_law_768 ?_
  refine l_aload_n hL dL_law_771 2 rfl ?_
  refine l_cM (As := []) (rest := [.int r]) hL (c_X6_sorts hM) yv_X6_sorts ml_RL_112 ⟨by decide, by decide, rfl, rfl⟩ rfl rfl (Nat.le_of_ble_eq_true rfl) dL_law_772 ?_
  refine l_eqT (tgt := 1339) hL dL_law_775 (by decide) ?_
  exact kk _ _ hr
def op_apart (N : Nat) (RR : zS → zS → Prop) (uc um : zS) (a0 : Int32) (a1 : Int32) (a2 : Int32) : Prop := ∃ (r : Int32) (uc' : zS) (um' : zS), f_X5_apart N uc a0 a1 a2 = some (r, uc') ∧ f_X6_apart N um a0 a1 a2 = some (r, um') ∧ RR uc' um'
set_option maxHeartbeats 4000000 in
set_option maxRecDepth 100000 in
theorem lc_apart {l : Launch} {g : ClassId × ClassId × va_G} {X : zX} {b L : Nat} {xs : Nat → Int32} {aC aM : Nat → Nat} {uc um : zS} {x3 : Int32} {N : Nat} {RR : zS → zS → Prop} (hL : lC g X b L xs) (hx1 : vp_in (x3 + 1) L) (hx2 : vp_in (x3 + 2) L) (hx3 : vp_in (x3 + 3) L) (ho : op_apart N RR uc um (xs (Int32.toNatClampNeg (x3 + 1))) (xs (Int32.toNatClampNeg (x3 + 2))) (xs (Int32.toNatClampNeg (x3 + 3)))) (kk : ∀ uc' um' : zS, RR uc' um' → lW l g X aC aM uc' um' 1339 [(0, .ref b), (1, .ref (aC 0)), (2, .ref (aM 0)), (3, .int x3)] []) : lW l g X aC aM uc um 780 [(0, .ref b), (1, .ref (aC 0)), (2, .ref (aM 0)), (3, .int x3)] [] := by
  obtain ⟨r, uc', um', hC, hM, hr⟩ := ho
  refine l_aload_n hL dL_law_780 1 rfl ?_
  refine l_aload_n hL dL_law_781 0 rfl ?_
  refine l_iload_n hL dL_law_782 3 rfl ?_
  refine l_iconst (v := 1) hL dL_law_783 (by decide) ?_
  refine l_iadd hL dL_law_784 ?_
  refine l_sld hL hx1 dL_law_785 ?_
  refine l_aload_n hL dL_law_786 0 rfl ?_
  refine l_iload_n hL dL_law_787 3 rfl ?_
  refine l_iconst (v := 2) hL dL_law_788 (by decide) ?_
  refine l_iadd hL dL_law_789 ?_
  refine l_sld hL hx2 dL_law_790 ?_
  refine l_aload_n hL dL_law_791 0 rfl ?_
  refine l_iload_n hL dL_law_792 3 rfl ?_
  refine l_iconst (v := 3) hL dL_law_793 (by decide) ?_
  refine l_iadd hL dL_law_794 ?_
  refine l_sld hL hx3 dL_law_795 ?_
  refine l_cC (As := [.int (xs (Int32.toNatClampNeg (x3 + 1))), .int (xs (Int32.toNatClampNeg (x3 + 2))), .int (xs (Int32.toNatClampNeg (x3 + 3)))]) (rest := []) hL (c_X5_apart hC) yv_X5_apart ml_RL_113 ⟨by decide, by decide, rfl, rfl⟩ rfl rfl (Nat.le_of_ble_eq_true rfl) dL_law_796 ?_
  refine l_aload_n hL dL_law_799 2 rfl ?_
  refine l_aload_n hL dL_law_800 0 rfl ?_
  refine l_iload_n hL dL_law_801 3 rfl ?_
  refine l_iconst (v := 1) hL dL_law_802 (by decide) ?_
  refine l_iadd hL dL_law_803 ?_
  refine l_sld hL hx1 dL_law_804 ?_
  refine l_aload_n hL dL_law_805 0 rfl ?_
  refine l_iload_n hL dL_law_806 3 rfl ?_
  refine l_iconst (v := 2) hL dL_law_807 (by decide) ?_
  refine l_iadd hL dL_law_808 ?_
  refine l_sld hL hx2 dL_law_809 ?_
  refine l_aload_n hL dL_law_810 0 rfl ?_
  refine l_iload_n hL dL_law_811 3 rfl ?_
  refine l_iconst (v := 3) hL dL_law_812 (by decide) ?_
  refine l_iadd hL dL_law_813 ?_
  refine l_sld hL hx3 dL_law_814 ?_
  refine l_cM (As := [.int (xs (Int32.toNatClampNeg (x3 + 1))), .int (xs (Int32.toNatClampNeg (x3 + 2))), .int (xs (Int32.toNatClampNeg (x3 + 3)))]) (rest := [.int r]) hL (c_X6_apart hM) yv_X6_apart ml_RL_116 ⟨by decide, by decide, rfl, rfl⟩ rfl rfl (Nat.le_of_ble_eq_true rfl) dL_law_815 ?_
  refine l_eqT (tgt := 1339) hL dL_law_818 (by decide) ?_
  exact kk _ _ hr
def op_chance (N : Nat) (RR : zS → zS → Prop) (uc um : zS) (a0 : Int32) (a1 : Int32) (a2 : Int32) (a3 : Int32) : Prop := ∃ (r : Int32) (uc' : zS) (um' : zS), f_X5_chance N uc a0 a1 a2 a3 = some (r, uc') ∧ f_X6_chance N um a0 a1 a2 a3 = some (r, um') ∧ RR uc' um'
set_option maxHeartbeats 4000000 in
set_option maxRecDepth 100000 in
theorem lc_chance {l : Launch} {g : ClassId × ClassId × va_G} {X : zX} {b L : Nat} {xs : Nat → Int32} {aC aM : Nat → Nat} {uc um : zS} {x3 : Int32} {N : Nat} {RR : zS → zS → Prop} (hL : lC g X b L xs) (hx1 : vp_in (x3 + 1) L) (hx2 : vp_in (x3 + 2) L) (hx3 : vp_in (x3 + 3) L) (hx4 : vp_in (x3 + 4) L) (ho : op_chance N RR uc um (xs (Int32.toNatClampNeg (x3 + 1))) (xs (Int32.toNatClampNeg (x3 + 2))) (xs (Int32.toNatClampNeg (x3 + 3))) (xs (Int32.toNatClampNeg (x3 + 4)))) (kk : ∀ uc' um' : zS, RR uc' um' → lW l g X aC aM uc' um' 1339 [(0, .ref b), (1, .ref (aC 0)), (2, .ref (aM 0)), (3, .int x3)] []) : lW l g X aC aM uc um 823 [(0, .ref b), (1, .ref (aC 0)), (2, .ref (aM 0)), (3, .int x3)] [] := by
  obtain ⟨r, uc', um', hC, hM, hr⟩ := ho
  refine l_aload_n hL dL_law_823 1 rfl ?_
  refine l_aload_n hL dL_law_824 0 rfl ?_
  refine l_iload_n hL dL_law_825 3 rfl ?_
  refine l_iconst (v := 1) hL dL_law_826 (by decide) ?_
  refine l_iadd hL dL_law_827 ?_
  refine l_sld hL hx1 dL_law_828 ?_
  refine l_aload_n hL dL_law_829 0 rfl ?_
  refine l_iload_n hL dL_law_830 3 rfl ?_
  refine l_iconst (v := 2) hL dL_law_831 (by decide) ?_
  refine l_iadd hL dL_law_832 ?_
  refine l_sld hL hx2 dL_law_833 ?_
  refine l_aload_n hL dL_law_834 0 rfl ?_
  refine l_iload_n hL dL_law_835 3 rfl ?_
  refine l_iconst (v := 3) hL dL_law_836 (by decide) ?_
  refine l_iadd hL dL_law_837 ?_
  refine l_sld hL hx3 dL_law_838 ?_
  refine l_aload_n hL dL_law_839 0 rfl ?_
  refine l_iload_n hL dL_law_840 3 rfl ?_
  refine l_iconst (v := 4) hL dL_law_841 (by decide) ?_
  refine l_iadd hL dL_law_842 ?_
  refine l_sld hL hx4 dL_law_843 ?_
  refine l_cC (As := [.int (xs (Int32.toNatClampNeg (x3 + 1))), .int (xs (Int32.toNatClampNeg (x3 + 2))), .int (xs (Int32.toNatClampNeg (x3 + 3))), .int (xs (Int32.toNatClampNeg (x3 + 4)))]) (rest := []) hL (c_X5_chance hC) yv_X5_chance ml_RL_117 ⟨by decide, by decide, rfl, rfl⟩ rfl rfl (Nat.le_of_ble_eq_true rfl) dL_law_844 ?_
  refine l_aload_n hL dL_law_847 2 rfl ?_
  refine l_aload_n hL dL_law_848 0 rfl ?_
  refine l_iload_n hL dL_law_849 3 rfl ?_
  refine l_iconst (v := 1) hL dL_law_850 (by decide) ?_
  refine l_iadd hL dL_law_851 ?_
  refine l_sld hL hx1 dL_law_852 ?_
  refine l_aload_n hL dL_law_853 0 rfl ?_
  refine l_iload_n hL dL_law_854 3 rfl ?_
  refine l_iconst (v := 2) hL dL_law_855 (by decide) ?_
  refine l_iadd hL dL_law_856 ?_
  refine l_sld hL hx2 dL_law_857 ?_
  refine l_aload_n hL dL_law_858 0 rfl ?_
  refine l_iload_n hL dL_law_859 3 rfl ?_
  refine l_iconst (v := 3) hL dL_law_860 (by decide) ?_
  refine l_iadd hL dL_law_861 ?_
  refine l_sld hL hx3 dL_law_862 ?_
  refine l_aload_n hL dL_law_863 0 rfl ?_
  refine l_iload_n hL dL_law_864 3 rfl ?_
  refine l_iconst (v := 4) hL dL_law_865 (by decide) ?_
  refine l_iadd hL dL_law_866 ?_
  refine l_sld hL hx4 dL_law_867 ?_
  refine l_cM (As := [.int (xs (Int32.toNatClampNeg (x3 + 1))), .int (xs (Int32.toNatClampNeg (x3 + 2))), .int (xs (Int32.toNatClampNeg (x3 + 3))), .int (xs (Int32.toNatClampNeg (x3 + 4)))]) (rest := [.int r]) hL (c_X6_chance hM) yv_X6_chance ml_RL_121 ⟨by decide, by decide, rfl, rfl⟩ rfl rfl (Nat.le_of_ble_eq_true rfl) dL_law_868 ?_
  refine l_eqT (tgt := 1339) hL dL_law_871 (by decide) ?_
  exact kk _ _ hr
def op_image (N : Nat) (RR : zS → zS → Prop) (uc um : zS) : Prop := ∃ (r : Int32) (uc' : zS) (um' : zS), f_X5_image uc = (r, uc') ∧ f_X6_image N um = some (r, um') ∧ RR uc' um'
set_option maxHeartbeats 4000000 in
set_option maxRecDepth 100000 in
theorem lc_image {l : Launch} {g : ClassId × ClassId × va_G} {X : zX} {b L : Nat} {xs : Nat → Int32} {aC aM : Nat → Nat} {uc um : zS} {x3 : Int32} {N : Nat} {RR : zS → zS → Prop} (hL : lC g X b L xs)  (ho : op_image N RR uc um ) (kk : ∀ uc' um' : zS, RR uc' um' → lW l g X aC aM uc' um' 1339 [(0, .ref b), (1, .ref (aC 0)), (2, .ref (aM 0)), (3, .int x3)] []) : lW l g X aC aM uc um 876 [(0, .ref b), (1, .ref (aC 0)), (2, .ref (aM 0)), (3, .int x3)] [] := by
  obtain ⟨r, uc', um', hC, hM, hr⟩ := ho
  refine l_aload_n hL dL_law_876 1 rfl ?_
  refine l_cC (As := []) (rest := []) hL (c_X5_image hC) yv_X5_image ml_RL_122 ⟨by decide, by decide, rfl, rfl⟩ rfl rfl (Nat.le_of_ble_eq_true rfl) dL_law_877 ?_
  refine l_aload_n hL dL_law_880 2 rfl ?_
  refine l_cM (As := []) (rest := [.int r]) hL (c_X6_image hM) yv_X6_image ml_RL_125 ⟨by decide, by decide, rfl, rfl⟩ rfl rfl (Nat.le_of_ble_eq_true rfl) dL_law_881 ?_
  refine l_eqT (tgt := 1339) hL dL_law_884 (by decide) ?_
  exact kk _ _ hr
def op_restore (N : Nat) (RR : zS → zS → Prop) (uc um : zS) : Prop := ∃ (r : Int32) (uc' : zS) (um' : zS), f_X5_restore uc = (r, uc') ∧ f_X6_restore N um = some (r, um') ∧ RR uc' um'
set_option maxHeartbeats 4000000 in
set_option maxRecDepth 100000 in
theorem lc_restore {l : Launch} {g : ClassId × ClassId × va_G} {X : zX} {b L : Nat} {xs : Nat → Int32} {aC aM : Nat → Nat} {uc um : zS} {x3 : Int32} {N : Nat} {RR : zS → zS → Prop} (hL : lC g X b L xs)  (ho : op_restore N RR uc um ) (kk : ∀ uc' um' : zS, RR uc' um' → lW l g X aC aM uc' um' 1339 [(0, .ref b), (1, .ref (aC 0)), (2, .ref (aM 0)), (3, .int x3)] []) : lW l g X aC aM uc um 889 [(0, .ref b), (1, .ref (aC 0)), (2, .ref (aM 0)), (3, .int x3)] [] := by
  obtain ⟨r, uc', um', hC, hM, hr⟩ := ho
  refine l_aload_n hL dL_law_889 1 rfl ?_
  refine l_cC (As := []) (rest := []) hL (c_X5_restore hC) yv_X5_restore ml_RL_126 ⟨by decide, by decide, rfl, rfl⟩ rfl rfl (Nat.le_of_ble_eq_true rfl) dL_law_890 ?_
  refine l_aload_n hL dL_law_893 2 rfl ?_
  refine l_cM (As := []) (rest := [.int r]) hL (c_X6_restore hM) yv_X6_restore ml_RL_129 ⟨by decide, by decide, rfl, rfl⟩ rfl rfl (Nat.le_of_ble_eq_true rfl) dL_law_894 ?_
  refine l_eqT (tgt := 1339) hL dL_law_897 (by decide) ?_
  exact kk _ _ hr
def op_counts (N : Nat) (RR : zS → zS → Prop) (uc um : zS) (a0 : Int32) (a1 : Int32) (a2 : Int32) (a3 : Int32) (a4 : Int32) (a5 : Int32) : Prop := ∃ (r : Int32), f_X5_counts N uc a0 a1 a2 a3 a4 a5 = some r ∧ f_X6_counts N um a0 a1 a2 a3 a4 a5 = some r ∧ RR uc um
set_option maxHeartbeats 4000000 in
set_option maxRecDepth 100000 in
theorem lc_counts {l : Launch} {g : ClassId × ClassId × va_G} {X : zX} {b L : Nat} {xs : Nat → Int32} {aC aM : Nat → Nat} {uc um : zS} {x3 : Int32} {N : Nat} {RR : zS → zS → Prop} (hL : lC g X b L xs) (hx1 : vp_in (x3 + 1) L) (hx2 : vp_in (x3 + 2) L) (hx3 : vp_in (x3 + 3) L) (hx4 : vp_in (x3 + 4) L) (hx5 : vp_in (x3 + 5) L) (hx6 : vp_in (x3 + 6) L) (ho : op_counts N RR uc um (xs (Int32.toNatClampNeg (x3 + 1))) (xs (Int32.toNatClampNeg (x3 + 2))) (xs (Int32.toNatClampNeg (x3 + 3))) (xs (Int32.toNatClampNeg (x3 + 4))) (xs (Int32.toNatClampNeg (x3 + 5))) (xs (Int32.toNatClampNeg (x3 + 6)))) (kk : ∀ uc' um' : zS, RR uc' um' → lW l g X aC aM uc' um' 1339 [(0, .ref b), (1, .ref (aC 0)), (2, .ref (aM 0)), (3, .int x3)] []) : lW l g X aC aM uc um 902 [(0, .ref b), (1, .ref (aC 0)), (2, .ref (aM 0)), (3, .int x3)] [] := by
  obtain ⟨r, hC, hM, hr⟩ := ho
  refine l_aload_n hL dL_law_902 1 rfl ?_
  refine l_aload_n hL dL_law_903 0 rfl ?_
  refine l_iload_n hL dL_law_904 3 rfl ?_
  refine l_iconst (v := 1) hL dL_law_905 (by decide) ?_
  refine l_iadd hL dL_law_906 ?_
  refine l_sld hL hx1 dL_law_907 ?_
  refine l_aload_n hL dL_law_908 0 rfl ?_
  refine l_iload_n hL dL_law_909 3 rfl ?_
  refine l_iconst (v := 2) hL dL_law_910 (by decide) ?_
  refine l_iadd hL dL_law_911 ?_
  refine l_sld hL hx2 dL_law_912 ?_
  refine l_aload_n hL dL_law_913 0 rfl ?_
  refine l_iload_n hL dL_law_914 3 rfl ?_
  refine l_iconst (v := 3) hL dL_law_915 (by decide) ?_
  refine l_iadd hL dL_law_916 ?_
  refine l_sld hL hx3 dL_law_917 ?_
  refine l_aload_n hL dL_law_918 0 rfl ?_
  refine l_iload_n hL dL_law_919 3 rfl ?_
  refine l_iconst (v := 4) hL dL_law_920 (by decide) ?_
  refine l_iadd hL dL_law_921 ?_
  refine l_sld hL hx4 dL_law_922 ?_
  refine l_aload_n hL dL_law_923 0 rfl ?_
  refine l_iload_n hL dL_law_924 3 rfl ?_
  refine l_iconst (v := 5) hL dL_law_925 (by decide) ?_
  refine l_iadd hL dL_law_926 ?_
  refine l_sld hL hx5 dL_law_927 ?_
  refine l_aload_n hL dL_law_928 0 rfl ?_
  refine l_iload_n hL dL_law_929 3 rfl ?_
  refine l_bipush (v := 6) hL dL_law_930 (by decide) ?_
  refine l_iadd hL dL_law_932 ?_
  refine l_sld hL hx6 dL_law_933 ?_
  refine l_cC (As := [.int (xs (Int32.toNatClampNeg (x3 + 1))), .int (xs (Int32.toNatClampNeg (x3 + 2))), .int (xs (Int32.toNatClampNeg (x3 + 3))), .int (xs (Int32.toNatClampNeg (x3 + 4))), .int (xs (Int32.toNatClampNeg (x3 + 5))), .int (xs (Int32.toNatClampNeg (x3 + 6)))]) (rest := []) hL (c_X5_counts hC) yv_X5_counts ml_RL_130 ⟨by decide, by decide, rfl, rfl⟩ rfl rfl (Nat.le_of_ble_eq_true rfl) dL_law_934 ?_
  refine l_aload_n hL dL_law_937 2 rfl ?_
  refine l_aload_n hL dL_law_938 0 rfl ?_
  refine l_iload_n hL dL_law_939 3 rfl ?_
  refine l_iconst (v := 1) hL dL_law_940 (by decide) ?_
  refine l_iadd hL dL_law_941 ?_
  refine l_sld hL hx1 dL_law_942 ?_
  refine l_aload_n hL dL_law_943 0 rfl ?_
  refine l_iload_n hL dL_law_944 3 rfl ?_
  refine l_iconst (v := 2) hL dL_law_945 (by decide) ?_
  refine l_iadd hL dL_law_946 ?_
  refine l_sld hL hx2 dL_law_947 ?_
  refine l_aload_n hL dL_law_948 0 rfl ?_
  refine l_iload_n hL dL_law_949 3 rfl ?_
  refine l_iconst (v := 3) hL dL_law_950 (by decide) ?_
  refine l_iadd hL dL_law_951 ?_
  refine l_sld hL hx3 dL_law_952 ?_
  refine l_aload_n hL dL_law_953 0 rfl ?_
  refine l_iload_n hL dL_law_954 3 rfl ?_
  refine l_iconst (v := 4) hL dL_law_955 (by decide) ?_
  refine l_iadd hL dL_law_956 ?_
  refine l_sld hL hx4 dL_law_957 ?_
  refine l_aload_n hL dL_law_958 0 rfl ?_
  refine l_iload_n hL dL_law_959 3 rfl ?_
  refine l_iconst (v := 5) hL dL_law_960 (by decide) ?_
  refine l_iadd hL dL_law_961 ?_
  refine l_sld hL hx5 dL_law_962 ?_
  refine l_aload_n hL dL_law_963 0 rfl ?_
  refine l_iload_n hL dL_law_964 3 rfl ?_
  refine l_bipush (v := 6) hL dL_law_965 (by decide) ?_
  refine l_iadd hL dL_law_967 ?_
  refine l_sld hL hx6 dL_law_968 ?_
  refine l_cM (As := [.int (xs (Int32.toNatClampNeg (x3 + 1))), .int (xs (Int32.toNatClampNeg (x3 + 2))), .int (xs (Int32.toNatClampNeg (x3 + 3))), .int (xs (Int32.toNatClampNeg (x3 + 4))), .int (xs (Int32.toNatClampNeg (x3 + 5))), .int (xs (Int32.toNatClampNeg (x3 + 6)))]) (rest := [.int r]) hL (c_X6_counts hM) yv_X6_counts ml_RL_134 ⟨by decide, by decide, rfl, rfl⟩ rfl rfl (Nat.le_of_ble_eq_true rfl) dL_law_969 ?_
  refine l_eqT (tgt := 1339) hL dL_law_972 (by decide) ?_
  exact kk _ _ hr
def op_steps (N : Nat) (RR : zS → zS → Prop) (uc um : zS) (a0 : Int32) (a1 : Int32) (a2 : Int32) (a3 : Int32) (a4 : Int32) (a5 : Int32) (a6 : Int32) : Prop := ∃ (r : Int32) (uc' : zS) (um' : zS), f_X5_steps N uc a0 a1 a2 a3 a4 a5 a6 = some (r, uc') ∧ f_X6_steps N um a0 a1 a2 a3 a4 a5 a6 = some (r, um') ∧ RR uc' um'
set_option maxHeartbeats 4000000 in
set_option maxRecDepth 100000 in
theorem lc_steps {l : Launch} {g : ClassId × ClassId × va_G} {X : zX} {b L : Nat} {xs : Nat → Int32} {aC aM : Nat → Nat} {uc um : zS} {x3 : Int32} {N : Nat} {RR : zS → zS → Prop} (hL : lC g X b L xs) (hx1 : vp_in (x3 + 1) L) (hx2 : vp_in (x3 + 2) L) (hx3 : vp_in (x3 + 3) L) (hx4 : vp_in (x3 + 4) L) (hx5 : vp_in (x3 + 5) L) (hx6 : vp_in (x3 + 6) L) (hx7 : vp_in (x3 + 7) L) (ho : op_steps N RR uc um (xs (Int32.toNatClampNeg (x3 + 1))) (xs (Int32.toNatClampNeg (x3 + 2))) (xs (Int32.toNatClampNeg (x3 + 3))) (xs (Int32.toNatClampNeg (x3 + 4))) (xs (Int32.toNatClampNeg (x3 + 5))) (xs (Int32.toNatClampNeg (x3 + 6))) (xs (Int32.toNatClampNeg (x3 + 7)))) (kk : ∀ uc' um' : zS, RR uc' um' → lW l g X aC aM uc' um' 1339 [(0, .ref b), (1, .ref (aC 0)), (2, .ref (aM 0)), (3, .int x3)] []) : lW l g X aC aM uc um 977 [(0, .ref b), (1, .ref (aC 0)), (2, .ref (aM 0)), (3, .int x3)] [] := by
  obtain ⟨r, uc', um', hC, hM, hr⟩ := ho
  refine l_aload_n hL dL_law_977 1 rfl ?_
  refine l_aload_n hL dL_law_978 0 rfl ?_
  refine l_iload_n hL dL_law_979 3 rfl ?_
  refine l_iconst (v := 1) hL dL_law_980 (by decide) ?_
  refine l_iadd hL dL_law_981 ?_
  refine l_sld hL hx1 dL_law_982 ?_
  refine l_aload_n hL dL_law_983 0 rfl ?_
  refine l_iload_n hL dL_law_984 3 rfl ?_
  refine l_iconst (v := 2) hL dL_law_985 (by decide) ?_
  refine l_iadd hL dL_law_986 ?_
  refine l_sld hL hx2 dL_law_987 ?_
  refine l_aload_n hL dL_law_988 0 rfl ?_
  refine l_iload_n hL dL_law_989 3 rfl ?_
  refine l_iconst (v := 3) hL dL_law_990 (by decide) ?_
  refine l_iadd hL dL_law_991 ?_
  refine l_sld hL hx3 dL_law_992 ?_
  refine l_aload_n hL dL_law_993 0 rfl ?_
  refine l_iload_n hL dL_law_994 3 rfl ?_
  refine l_iconst (v := 4) hL dL_law_995 (by decide) ?_
  refine l_iadd hL dL_law_996 ?_
  refine l_sld hL hx4 dL_law_997 ?_
  refine l_aload_n hL dL_law_998 0 rfl ?_
  refine l_iload_n hL dL_law_999 3 rfl ?_
  refine l_iconst (v := 5) hL dL_law_1000 (by decide) ?_
  refine l_iadd hL dL_law_1001 ?_
  refine l_sld hL hx5 dL_law_1002 ?_
  refine l_aload_n hL dL_law_1003 0 rfl ?_
  refine l_iload_n hL dL_law_1004 3 rfl ?_
  refine l_bipush (v := 6) hL dL_law_1005 (by decide) ?_
  refine l_iadd hL dL_law_1007 ?_
  refine l_sld hL hx6 dL_law_1008 ?_
  refine l_aload_n hL dL_law_1009 0 rfl ?_
  refine l_iload_n hL dL_law_1010 3 rfl ?_
  refine l_bipush (v := 7) hL dL_law_1011 (by decide) ?_
  refine l_iadd hL dL_law_1013 ?_
  refine l_sld hL hx7 dL_law_1014 ?_
  refine l_cC (As := [.int (xs (Int32.toNatClampNeg (x3 + 1))), .int (xs (Int32.toNatClampNeg (x3 + 2))), .int (xs (Int32.toNatClampNeg (x3 + 3))), .int (xs (Int32.toNatClampNeg (x3 + 4))), .int (xs (Int32.toNatClampNeg (x3 + 5))), .int (xs (Int32.toNatClampNeg (x3 + 6))), .int (xs (Int32.toNatClampNeg (x3 + 7)))]) (rest := []) hL (c_X5_steps hC) yv_X5_steps ml_RL_135 ⟨by decide, by decide, rfl, rfl⟩ rfl rfl (Nat.le_of_ble_eq_true rfl) dL_law_1015 ?_
  refine l_aload_n hL dL_law_1018 2 rfl ?_
  refine l_aload_n hL dL_law_1019 0 rfl ?_
  refine l_iload_n hL dL_law_1020 3 rfl ?_
  refine l_iconst (v := 1) hL dL_law_1021 (by decide) ?_
  refine l_iadd hL dL_law_1022 ?_
  refine l_sld hL hx1 dL_law_1023 ?_
  refine l_aload_n hL dL_law_1024 0 rfl ?_
  refine l_iload_n hL dL_law_1025 3 rfl ?_
  refine l_iconst (v := 2) hL dL_law_1026 (by decide) ?_
  refine l_iadd hL dL_law_1027 ?_
  refine l_sld hL hx2 dL_law_1028 ?_
  refine l_aload_n hL dL_law_1029 0 rfl ?_
  refine l_iload_n hL dL_law_1030 3 rfl ?_
  refine l_iconst (v := 3) hL dL_law_1031 (by decide) ?_
  refine l_iadd hL dL_law_1032 ?_
  refine l_sld hL hx3 dL_law_1033 ?_
  refine l_aload_n hL dL_law_1034 0 rfl ?_
  refine l_iload_n hL dL_law_1035 3 rfl ?_
  refine l_iconst (v := 4) hL dL_law_1036 (by decide) ?_
  refine l_iadd hL dL_law_1037 ?_
  refine l_sld hL hx4 dL_law_1038 ?_
  refine l_aload_n hL dL_law_1039 0 rfl ?_
  refine l_iload_n hL dL_law_1040 3 rfl ?_
  refine l_iconst (v := 5) hL dL_law_1041 (by decide) ?_
  refine l_iadd hL dL_law_1042 ?_
  refine l_sld hL hx5 dL_law_1043 ?_
  refine l_aload_n hL dL_law_1044 0 rfl ?_
  refine l_iload_n hL dL_law_1045 3 rfl ?_
  refine l_bipush (v := 6) hL dL_law_1046 (by decide) ?_
  refine l_iadd hL dL_law_1048 ?_
  refine l_sld hL hx6 dL_law_1049 ?_
  refine l_aload_n hL dL_law_1050 0 rfl ?_
  refine l_iload_n hL dL_law_1051 3 rfl ?_
  refine l_bipush (v := 7) hL dL_law_1052 (by decide) ?_
  refine l_iadd hL dL_law_1054 ?_
  refine l_sld hL hx7 dL_law_1055 ?_
  refine l_cM (As := [.int (xs (Int32.toNatClampNeg (x3 + 1))), .int (xs (Int32.toNatClampNeg (x3 + 2))), .int (xs (Int32.toNatClampNeg (x3 + 3))), .int (xs (Int32.toNatClampNeg (x3 + 4))), .int (xs (Int32.toNatClampNeg (x3 + 5))), .int (xs (Int32.toNatClampNeg (x3 + 6))), .int (xs (Int32.toNatClampNeg (x3 + 7)))]) (rest := [.int r]) hL (c_X6_steps hM) yv_X6_steps ml_RL_139 ⟨by decide, by decide, rfl, rfl⟩ rfl rfl (Nat.le_of_ble_eq_true rfl) dL_law_1056 ?_
  refine l_eqT (tgt := 1339) hL dL_law_1059 (by decide) ?_
  exact kk _ _ hr
def op_film (N : Nat) (RR : zS → zS → Prop) (uc um : zS) (a0 : Int32) (a1 : Int32) (a2 : Int32) (a3 : Int32) (a4 : Int32) : Prop := ∃ (r : Int32) (uc' : zS) (um' : zS), f_X5_film N uc a0 a1 a2 a3 a4 = some (r, uc') ∧ f_X6_film N um a0 a1 a2 a3 a4 = some (r, um') ∧ RR uc' um'
set_option maxHeartbeats 4000000 in
set_option maxRecDepth 100000 in
theorem lc_film {l : Launch} {g : ClassId × ClassId × va_G} {X : zX} {b L : Nat} {xs : Nat → Int32} {aC aM : Nat → Nat} {uc um : zS} {x3 : Int32} {N : Nat} {RR : zS → zS → Prop} (hL : lC g X b L xs) (hx1 : vp_in (x3 + 1) L) (hx2 : vp_in (x3 + 2) L) (hx3 : vp_in (x3 + 3) L) (hx4 : vp_in (x3 + 4) L) (hx5 : vp_in (x3 + 5) L) (ho : op_film N RR uc um (xs (Int32.toNatClampNeg (x3 + 1))) (xs (Int32.toNatClampNeg (x3 + 2))) (xs (Int32.toNatClampNeg (x3 + 3))) (xs (Int32.toNatClampNeg (x3 + 4))) (xs (Int32.toNatClampNeg (x3 + 5)))) (kk : ∀ uc' um' : zS, RR uc' um' → lW l g X aC aM uc' um' 1339 [(0, .ref b), (1, .ref (aC 0)), (2, .ref (aM 0)), (3, .int x3)] []) : lW l g X aC aM uc um 1064 [(0, .ref b), (1, .ref (aC 0)), (2, .ref (aM 0)), (3, .int x3)] [] := by
  obtain ⟨r, uc', um', hC, hM, hr⟩ := ho
  refine l_aload_n hL dL_law_1064 1 rfl ?_
  refine l_aload_n hL dL_law_1065 0 rfl ?_
  refine l_iload_n hL dL_law_1066 3 rfl ?_
  refine l_iconst (v := 1) hL dL_law_1067 (by decide) ?_
  refine l_iadd hL dL_law_1068 ?_
  refine l_sld hL hx1 dL_law_1069 ?_
  refine l_aload_n hL dL_law_1070 0 rfl ?_
  refine l_iload_n hL dL_law_1071 3 rfl ?_
  refine l_iconst (v := 2) hL dL_law_1072 (by decide) ?_
  refine l_iadd hL dL_law_1073 ?_
  refine l_sld hL hx2 dL_law_1074 ?_
  refine l_aload_n hL dL_law_1075 0 rfl ?_
  refine l_iload_n hL dL_law_1076 3 rfl ?_
  refine l_iconst (v := 3) hL dL_law_1077 (by decide) ?_
  refine l_iadd hL dL_law_1078 ?_
  refine l_sld hL hx3 dL_law_1079 ?_
  refine l_aload_n hL dL_law_1080 0 rfl ?_
  refine l_iload_n hL dL_law_1081 3 rfl ?_
  refine l_iconst (v := 4) hL dL_law_1082 (by decide) ?_
  refine l_iadd hL dL_law_1083 ?_
  refine l_sld hL hx4 dL_law_1084 ?_
  refine l_aload_n hL dL_law_1085 0 rfl ?_
  refine l_iload_n hL dL_law_1086 3 rfl ?_
  refine l_iconst (v := 5) hL dL_law_1087 (by decide) ?_
  refine l_iadd hL dL_law_1088 ?_
  refine l_sld hL hx5 dL_law_1089 ?_
  refine l_cC (As := [.int (xs (Int32.toNatClampNeg (x3 + 1))), .int (xs (Int32.toNatClampNeg (x3 + 2))), .int (xs (Int32.toNatClampNeg (x3 + 3))), .int (xs (Int32.toNatClampNeg (x3 + 4))), .int (xs (Int32.toNatClampNeg (x3 + 5)))]) (rest := []) hL (c_X5_film hC) yv_X5_film ml_RL_140 ⟨by decide, by decide, rfl, rfl⟩ rfl rfl (Nat.le_of_ble_eq_true rfl) dL_law_1090 ?_
  refine l_aload_n hL dL_law_1093 2 rfl ?_
  refine l_aload_n hL dL_law_1094 0 rfl ?_
  refine l_iload_n hL dL_law_1095 3 rfl ?_
  refine l_iconst (v := 1) hL dL_law_1096 (by decide) ?_
  refine l_iadd hL dL_law_1097 ?_
  refine l_sld hL hx1 dL_law_1098 ?_
  refine l_aload_n hL dL_law_1099 0 rfl ?_
  refine l_iload_n hL dL_law_1100 3 rfl ?_
  refine l_iconst (v := 2) hL dL_law_1101 (by decide) ?_
  refine l_iadd hL dL_law_1102 ?_
  refine l_sld hL hx2 dL_law_1103 ?_
  refine l_aload_n hL dL_law_1104 0 rfl ?_
  refine l_iload_n hL dL_law_1105 3 rfl ?_
  refine l_iconst (v := 3) hL dL_law_1106 (by decide) ?_
  refine l_iadd hL dL_law_1107 ?_
  refine l_sld hL hx3 dL_law_1108 ?_
  refine l_aload_n hL dL_law_1109 0 rfl ?_
  refine l_iload_n hL dL_law_1110 3 rfl ?_
  refine l_iconst (v := 4) hL dL_law_1111 (by decide) ?_
  refine l_iadd hL dL_law_1112 ?_
  refine l_sld hL hx4 dL_law_1113 ?_
  refine l_aload_n hL dL_law_1114 0 rfl ?_
  refine l_iload_n hL dL_law_1115 3 rfl ?_
  refine l_iconst (v := 5) hL dL_law_1116 (by decide) ?_
  refine l_iadd hL dL_law_1117 ?_
  refine l_sld hL hx5 dL_law_1118 ?_
  refine l_cM (As := [.int (xs (Int32.toNatClampNeg (x3 + 1))), .int (xs (Int32.toNatClampNeg (x3 + 2))), .int (xs (Int32.toNatClampNeg (x3 + 3))), .int (xs (Int32.toNatClampNeg (x3 + 4))), .int (xs (Int32.toNatClampNeg (x3 + 5)))]) (rest := [.int r]) hL (c_X6_film hM) yv_X6_film ml_RL_144 ⟨by decide, by decide, rfl, rfl⟩ rfl rfl (Nat.le_of_ble_eq_true rfl) dL_law_1119 ?_
  refine l_eqT (tgt := 1339) hL dL_law_1122 (by decide) ?_
  exact kk _ _ hr
def op_sheet (N : Nat) (RR : zS → zS → Prop) (uc um : zS) (a0 : Int32) (a1 : Int32) (a2 : Int32) : Prop := ∃ (r : Int32) (uc' : zS) (um' : zS), f_X5_sheet N uc a0 a1 a2 = some (r, uc') ∧ f_X6_sheet N um a0 a1 a2 = some (r, um') ∧ RR uc' um'
set_option maxHeartbeats 4000000 in
set_option maxRecDepth 100000 in
theorem lc_sheet {l : Launch} {g : ClassId × ClassId × va_G} {X : zX} {b L : Nat} {xs : Nat → Int32} {aC aM : Nat → Nat} {uc um : zS} {x3 : Int32} {N : Nat} {RR : zS → zS → Prop} (hL : lC g X b L xs) (hx1 : vp_in (x3 + 1) L) (hx2 : vp_in (x3 + 2) L) (hx3 : vp_in (x3 + 3) L) (ho : op_sheet N RR uc um (xs (Int32.toNatClampNeg (x3 + 1))) (xs (Int32.toNatClampNeg (x3 + 2))) (xs (Int32.toNatClampNeg (x3 + 3)))) (kk : ∀ uc' um' : zS, RR uc' um' → lW l g X aC aM uc' um' 1339 [(0, .ref b), (1, .ref (aC 0)), (2, .ref (aM 0)), (3, .int x3)] []) : lW l g X aC aM uc um 1127 [(0, .ref b), (1, .ref (aC 0)), (2, .ref (aM 0)), (3, .int x3)] [] := by
  obtain ⟨r, uc', um', hC, hM, hr⟩ := ho
  refine l_aload_n hL dL_law_1127 1 rfl ?_
  refine l_aload_n hL dL_law_1128 0 rfl ?_
  refine l_iload_n hL dL_law_1129 3 rfl ?_
  refine l_iconst (v := 1) hL dL_law_1130 (by decide) ?_
  refine l_iadd hL dL_law_1131 ?_
  refine l_sld hL hx1 dL_law_1132 ?_
  refine l_aload_n hL dL_law_1133 0 rfl ?_
  refine l_iload_n hL dL_law_1134 3 rfl ?_
  refine l_iconst (v := 2) hL dL_law_1135 (by decide) ?_
  refine l_iadd hL dL_law_1136 ?_
  refine l_sld hL hx2 dL_law_1137 ?_
  refine l_aload_n hL dL_law_1138 0 rfl ?_
  refine l_iload_n hL dL_law_1139 3 rfl ?_
  refine l_iconst (v := 3) hL dL_law_1140 (by decide) ?_
  refine l_iadd hL dL_law_1141 ?_
  refine l_sld hL hx3 dL_law_1142 ?_
  refine l_cC (As := [.int (xs (Int32.toNatClampNeg (x3 + 1))), .int (xs (Int32.toNatClampNeg (x3 + 2))), .int (xs (Int32.toNatClampNeg (x3 + 3)))]) (rest := []) hL (c_X5_sheet hC) yv_X5_sheet ml_RL_145 ⟨by decide, by decide, rfl, rfl⟩ rfl rfl (Nat.le_of_ble_eq_true rfl) dL_law_1143 ?_
  refine l_aload_n hL dL_law_1146 2 rfl ?_
  refine l_aload_n hL dL_law_1147 0 rfl ?_
  refine l_iload_n hL dL_law_1148 3 rfl ?_
  refine l_iconst (v := 1) hL dL_law_1149 (by decide) ?_
  refine l_iadd hL dL_law_1150 ?_
  refine l_sld hL hx1 dL_law_1151 ?_
  refine l_aload_n hL dL_law_1152 0 rfl ?_
  refine l_iload_n hL dL_law_1153 3 rfl ?_
  refine l_iconst (v := 2) hL dL_law_1154 (by decide) ?_
  refine l_iadd hL dL_law_1155 ?_
  refine l_sld hL hx2 dL_law_1156 ?_
  refine l_aload_n hL dL_law_1157 0 rfl ?_
  refine l_iload_n hL dL_law_1158 3 rfl ?_
  refine l_iconst (v := 3) hL dL_law_1159 (by decide) ?_
  refine l_iadd hL dL_law_1160 ?_
  refine l_sld hL hx3 dL_law_1161 ?_
  refine l_cM (As := [.int (xs (Int32.toNatClampNeg (x3 + 1))), .int (xs (Int32.toNatClampNeg (x3 + 2))), .int (xs (Int32.toNatClampNeg (x3 + 3)))]) (rest := [.int r]) hL (c_X6_sheet hM) yv_X6_sheet ml_RL_148 ⟨by decide, by decide, rfl, rfl⟩ rfl rfl (Nat.le_of_ble_eq_true rfl) dL_law_1162 ?_
  refine l_eqT (tgt := 1339) hL dL_law_1165 (by decide) ?_
  exact kk _ _ hr
def op_drop (N : Nat) (RR : zS → zS → Prop) (uc um : zS) (a0 : Int32) : Prop := ∃ (r : Int32) (uc' : zS) (um' : zS), f_X5_drop uc a0 = some (r, uc') ∧ f_X6_drop um a0 = some (r, um') ∧ RR uc' um'
set_option maxHeartbeats 4000000 in
set_option maxRecDepth 100000 in
theorem lc_drop {l : Launch} {g : ClassId × ClassId × va_G} {X : zX} {b L : Nat} {xs : Nat → Int32} {aC aM : Nat → Nat} {uc um : zS} {x3 : Int32} {N : Nat} {RR : zS → zS → Prop} (hL : lC g X b L xs) (hx1 : vp_in (x3 + 1) L) (ho : op_drop N RR uc um (xs (Int32.toNatClampNeg (x3 + 1)))) (kk : ∀ uc' um' : zS, RR uc' um' → lW l g X aC aM uc' um' 1339 [(0, .ref b), (1, .ref (aC 0)), (2, .ref (aM 0)), (3, .int x3)] []) : lW l g X aC aM uc um 1170 [(0, .ref b), (1, .ref (aC 0)), (2, .ref (aM 0)), (3, .int x3)] [] := by
  obtain ⟨r, uc', um', hC, hM, hr⟩ := ho
  refine l_aload_n hL dL_law_1170 1 rfl ?_
  refine l_aload_n hL dL_law_1171 0 rfl ?_
  refine l_iload_n hL dL_law_1172 3 rfl ?_
  refine l_iconst (v := 1) hL dL_law_1173 (by decide) ?_
  refine l_iadd hL dL_law_1174 ?_
  refine l_sld hL hx1 dL_law_1175 ?_
  refine l_cC (As := [.int (xs (Int32.toNatClampNeg (x3 + 1)))]) (rest := []) hL (c_X5_drop hC) yv_X5_drop ml_RL_149 ⟨by decide, by decide, rfl, rfl⟩ rfl rfl (Nat.le_of_ble_eq_true rfl) dL_law_1176 ?_
  refine l_aload_n hL dL_law_1179 2 rfl ?_
  refine l_aload_n hL dL_law_1180 0 rfl ?_
  refine l_iload_n hL dL_law_1181 3 rfl ?_
  refine l_iconst (v := 1) hL dL_law_1182 (by decide) ?_
  refine l_iadd hL dL_law_1183 ?_
  refine l_sld hL hx1 dL_law_1184 ?_
  refine l_cM (As := [.int (xs (Int32.toNatClampNeg (x3 + 1)))]) (rest := [.int r]) hL (c_X6_drop hM) yv_X6_drop ml_RL_152 ⟨by decide, by decide, rfl, rfl⟩ rfl rfl (Nat.le_of_ble_eq_true rfl) dL_law_1185 ?_
  refine l_eqT (tgt := 1339) hL dL_law_1188 (by decide) ?_
  exact kk _ _ hr
def op_item (N : Nat) (RR : zS → zS → Prop) (uc um : zS) (a0 : Int32) (a1 : Int32) (a2 : Int32) (a3 : Int64) : Prop := ∃ (r : Int32) (uc' : zS) (um' : zS), f_X5_item uc a0 a1 a2 a3 = some (r, uc') ∧ f_X6_item um a0 a1 a2 a3 = some (r, um') ∧ RR uc' um'
set_option maxHeartbeats 4000000 in
set_option maxRecDepth 100000 in
theorem lc_item {l : Launch} {g : ClassId × ClassId × va_G} {X : zX} {b L : Nat} {xs : Nat → Int32} {aC aM : Nat → Nat} {uc um : zS} {x3 : Int32} {N : Nat} {RR : zS → zS → Prop} (hL : lC g X b L xs) (hx1 : vp_in (x3 + 1) L) (hx2 : vp_in (x3 + 2) L) (hx3 : vp_in (x3 + 3) L) (hx4 : vp_in (x3 + 4) L) (hx5 : vp_in (x3 + 5) L) (ho : op_item N RR uc um (xs (Int32.toNatClampNeg (x3 + 1))) (xs (Int32.toNatClampNeg (x3 + 2))) (xs (Int32.toNatClampNeg (x3 + 3))) (((Int32.toInt64 (xs (Int32.toNatClampNeg (x3 + 4)))) <<< (Int32.toInt64 32 &&& (63 : Int64))) ||| ((Int32.toInt64 (xs (Int32.toNatClampNeg (x3 + 5)))) &&& 4294967295))) (kk : ∀ uc' um' : zS, RR uc' um' → lW l g X aC aM uc' um' 1339 [(0, .ref b), (1, .ref (aC 0)), (2, .ref (aM 0)), (3, .int x3)] []) : lW l g X aC aM uc um 1193 [(0, .ref b), (1, .ref (aC 0)), (2, .ref (aM 0)), (3, .int x3)] [] := by
  obtain ⟨r, uc', um', hC, hM, hr⟩ := ho
  refine l_aload_n hL dL_law_1193 1 rfl ?_
  refine l_aload_n hL dL_law_1194 0 rfl ?_
  refine l_iload_n hL dL_law_1195 3 rfl ?_
  refine l_iconst (v := 1) hL dL_law_1196 (by decide) ?_
  refine l_iadd hL dL_law_1197 ?_
  refine l_sld hL hx1 dL_law_1198 ?_
  refine l_aload_n hL dL_law_1199 0 rfl ?_
  refine l_iload_n hL dL_law_1200 3 rfl ?_
  refine l_iconst (v := 2) hL dL_law_1201 (by decide) ?_
  refine l_iadd hL dL_law_1202 ?_
  refine l_sld hL hx2 dL_law_1203 ?_
  refine l_aload_n hL dL_law_1204 0 rfl ?_
  refine l_iload_n hL dL_law_1205 3 rfl ?_
  refine l_iconst (v := 3) hL dL_law_1206 (by decide) ?_
  refine l_iadd hL dL_law_1207 ?_
  refine l_sld hL hx3 dL_law_1208 ?_
  refine l_aload_n hL dL_law_1209 0 rfl ?_
  refine l_iload_n hL dL_law_1210 3 rfl ?_
  refine l_iconst (v := 4) hL dL_law_1211 (by decide) ?_
  refine l_iadd hL dL_law_1212 ?_
  refine l_sld hL hx4 dL_law_1213 ?_
  refine l_i2l hL dL_law_1214 ?_
  refine l_bipush (v := 32) hL dL_law_1215 (by decide) ?_
  refine l_lshl hL dL_law_1217 ?_
  refine l_aload_n hL dL_law_1218 0 rfl ?_
  refine l_iload_n hL dL_law_1219 3 rfl ?_
  refine l_iconst (v := 5) hL dL_law_1220 (by decide) ?_
  refine l_iadd hL dL_law_1221 ?_
  refine l_sld hL hx5 dL_law_1222 ?_
  refine l_i2l hL dL_law_1223 ?_
  refine l_ldc2 hL cn_RL_153 dL_law_1224 ?_
  refine l_land hL dL_law_1227 ?_
  refine l_lor hL dL_law_1228 ?_
  refine l_cC (As := [.int (xs (Int32.toNatClampNeg (x3 + 1))), .int (xs (Int32.toNatClampNeg (x3 + 2))), .int (xs (Int32.toNatClampNeg (x3 + 3))), .long (((Int32.toInt64 (xs (Int32.toNatClampNeg (x3 + 4)))) <<< (Int32.toInt64 32 &&& (63 : Int64))) ||| ((Int32.toInt64 (xs (Int32.toNatClampNeg (x3 + 5)))) &&& 4294967295))]) (rest := []) hL (c_X5_item hC) yv_X5_item ml_RL_155 ⟨by decide, by decide, rfl, rfl⟩ rfl rfl (Nat.le_of_ble_eq_true rfl) dL_law_1229 ?_
  refine l_aload_n hL dL_law_1232 2 rfl ?_
  refine l_aload_n hL dL_law_1233 0 rfl ?_
  refine l_iload_n hL dL_law_1234 3 rfl ?_
  refine l_iconst (v := 1) hL dL_law_1235 (by decide) ?_
  refine l_iadd hL dL_law_1236 ?_
  refine l_sld hL hx1 dL_law_1237 ?_
  refine l_aload_n hL dL_law_1238 0 rfl ?_
  refine l_iload_n hL dL_law_1239 3 rfl ?_
  refine l_iconst (v := 2) hL dL_law_1240 (by decide) ?_
  refine l_iadd hL dL_law_1241 ?_
  refine l_sld hL hx2 dL_law_1242 ?_
  refine l_aload_n hL dL_law_1243 0 rfl ?_
  refine l_iload_n hL dL_law_1244 3 rfl ?_
  refine l_iconst (v := 3) hL dL_law_1245 (by decide) ?_
  refine l_iadd hL dL_law_1246 ?_
  refine l_sld hL hx3 dL_law_1247 ?_
  refine l_aload_n hL dL_law_1248 0 rfl ?_
  refine l_iload_n hL dL_law_1249 3 rfl ?_
  refine l_iconst (v := 4) hL dL_law_1250 (by decide) ?_
  refine l_iadd hL dL_law_1251 ?_
  refine l_sld hL hx4 dL_law_1252 ?_
  refine l_i2l hL dL_law_1253 ?_
  refine l_bipush (v := 32) hL dL_law_1254 (by decide) ?_
  refine l_lshl hL dL_law_1256 ?_
  refine l_aload_n hL dL_law_1257 0 rfl ?_
  refine l_iload_n hL dL_law_1258 3 rfl ?_
  refine l_iconst (v := 5) hL dL_law_1259 (by decide) ?_
  refine l_iadd hL dL_law_1260 ?_
  refine l_sld hL hx5 dL_law_1261 ?_
  refine l_i2l hL dL_law_1262 ?_
  refine l_ldc2 hL cn_RL_153 dL_law_1263 ?_
  refine l_land hL dL_law_1266 ?_
  refine l_lor hL dL_law_1267 ?_
  refine l_cM (As := [.int (xs (Int32.toNatClampNeg (x3 + 1))), .int (xs (Int32.toNatClampNeg (x3 + 2))), .int (xs (Int32.toNatClampNeg (x3 + 3))), .long (((Int32.toInt64 (xs (Int32.toNatClampNeg (x3 + 4)))) <<< (Int32.toInt64 32 &&& (63 : Int64))) ||| ((Int32.toInt64 (xs (Int32.toNatClampNeg (x3 + 5)))) &&& 4294967295))]) (rest := [.int r]) hL (c_X6_item hM) yv_X6_item ml_RL_159 ⟨by decide, by decide, rfl, rfl⟩ rfl rfl (Nat.le_of_ble_eq_true rfl) dL_law_1268 ?_
  refine l_eqT (tgt := 1339) hL dL_law_1271 (by decide) ?_
  exact kk _ _ hr
def op_copy (N : Nat) (RR : zS → zS → Prop) (uc um : zS) (a0 : Int32) (a1 : Int32) (a2 : Int32) (a3 : Int32) (a4 : Int32) : Prop := ∃ (r : Int32) (uc' : zS) (um' : zS), f_X5_copy uc a0 a1 a2 a3 a4 = some (r, uc') ∧ f_X6_copy N um a0 a1 a2 a3 a4 = some (r, um') ∧ RR uc' um'
set_option maxHeartbeats 4000000 in
set_option maxRecDepth 100000 in
theorem lc_copy {l : Launch} {g : ClassId × ClassId × va_G} {X : zX} {b L : Nat} {xs : Nat → Int32} {aC aM : Nat → Nat} {uc um : zS} {x3 : Int32} {N : Nat} {RR : zS → zS → Prop} (hL : lC g X b L xs) (hx1 : vp_in (x3 + 1) L) (hx2 : vp_in (x3 + 2) L) (hx3 : vp_in (x3 + 3) L) (hx4 : vp_in (x3 + 4) L) (hx5 : vp_in (x3 + 5) L) (ho : op_copy N RR uc um (xs (Int32.toNatClampNeg (x3 + 1))) (xs (Int32.toNatClampNeg (x3 + 2))) (xs (Int32.toNatClampNeg (x3 + 3))) (xs (Int32.toNatClampNeg (x3 + 4))) (xs (Int32.toNatClampNeg (x3 + 5)))) (kk : ∀ uc' um' : zS, RR uc' um' → lW l g X aC aM uc' um' 1339 [(0, .ref b), (1, .ref (aC 0)), (2, .ref (aM 0)), (3, .int x3)] []) : lW l g X aC aM uc um 1276 [(0, .ref b), (1, .ref (aC 0)), (2, .ref (aM 0)), (3, .int x3)] [] := by
  obtain ⟨r, uc', um', hC, hM, hr⟩ := ho
  refine l_aload_n hL dL_law_1276 1 rfl ?_
  refine l_aload_n hL dL_law_1277 0 rfl ?_
  refine l_iload_n hL dL_law_1278 3 rfl ?_
  refine l_iconst (v := 1) hL dL_law_1279 (by decide) ?_
  refine l_iadd hL dL_law_1280 ?_
  refine l_sld hL hx1 dL_law_1281 ?_
  refine l_aload_n hL dL_law_1282 0 rfl ?_
  refine l_iload_n hL dL_law_1283 3 rfl ?_
  refine l_iconst (v := 2) hL dL_law_1284 (by decide) ?_
  refine l_iadd hL dL_law_1285 ?_
  refine l_sld hL hx2 dL_law_1286 ?_
  refine l_aload_n hL dL_law_1287 0 rfl ?_
  refine l_iload_n hL dL_law_1288 3 rfl ?_
  refine l_iconst (v := 3) hL dL_law_1289 (by decide) ?_
  refine l_iadd hL dL_law_1290 ?_
  refine l_sld hL hx3 dL_law_1291 ?_
  refine l_aload_n hL dL_law_1292 0 rfl ?_
  refine l_iload_n hL dL_law_1293 3 rfl ?_
  refine l_iconst (v := 4) hL dL_law_1294 (by decide) ?_
  refine l_iadd hL dL_law_1295 ?_
  refine l_sld hL hx4 dL_law_1296 ?_
  refine l_aload_n hL dL_law_1297 0 rfl ?_
  refine l_iload_n hL dL_law_1298 3 rfl ?_
  refine l_iconst (v := 5) hL dL_law_1299 (by decide) ?_
  refine l_iadd hL dL_law_1300 ?_
  refine l_sld hL hx5 dL_law_1301 ?_
  refine l_cC (As := [.int (xs (Int32.toNatClampNeg (x3 + 1))), .int (xs (Int32.toNatClampNeg (x3 + 2))), .int (xs (Int32.toNatClampNeg (x3 + 3))), .int (xs (Int32.toNatClampNeg (x3 + 4))), .int (xs (Int32.toNatClampNeg (x3 + 5)))]) (rest := []) hL (c_X5_copy hC) yv_X5_copy ml_RL_160 ⟨by decide, by decide, rfl, rfl⟩ rfl rfl (Nat.le_of_ble_eq_true rfl) dL_law_1302 ?_
  refine l_aload_n hL dL_law_1305 2 rfl ?_
  refine l_aload_n hL dL_law_1306 0 rfl ?_
  refine l_iload_n hL dL_law_1307 3 rfl ?_
  refine l_iconst (v := 1) hL dL_law_1308 (by decide) ?_
  refine l_iadd hL dL_law_1309 ?_
  refine l_sld hL hx1 dL_law_1310 ?_
  refine l_aload_n hL dL_law_1311 0 rfl ?_
  refine l_iload_n hL dL_law_1312 3 rfl ?_
  refine l_iconst (v := 2) hL dL_law_1313 (by decide) ?_
  refine l_iadd hL dL_law_1314 ?_
  refine l_sld hL hx2 dL_law_1315 ?_
  refine l_aload_n hL dL_law_1316 0 rfl ?_
  refine l_iload_n hL dL_law_1317 3 rfl ?_
  refine l_iconst (v := 3) hL dL_law_1318 (by decide) ?_
  refine l_iadd hL dL_law_1319 ?_
  refine l_sld hL hx3 dL_law_1320 ?_
  refine l_aload_n hL dL_law_1321 0 rfl ?_
  refine l_iload_n hL dL_law_1322 3 rfl ?_
  refine l_iconst (v := 4) hL dL_law_1323 (by decide) ?_
  refine l_iadd hL dL_law_1324 ?_
  refine l_sld hL hx4 dL_law_1325 ?_
  refine l_aload_n hL dL_law_1326 0 rfl ?_
  refine l_iload_n hL dL_law_1327 3 rfl ?_
  refine l_iconst (v := 5) hL dL_law_1328 (by decide) ?_
  refine l_iadd hL dL_law_1329 ?_
  refine l_sld hL hx5 dL_law_1330 ?_
  refine l_cM (As := [.int (xs (Int32.toNatClampNeg (x3 + 1))), .int (xs (Int32.toNatClampNeg (x3 + 2))), .int (xs (Int32.toNatClampNeg (x3 + 3))), .int (xs (Int32.toNatClampNeg (x3 + 4))), .int (xs (Int32.toNatClampNeg (x3 + 5)))]) (rest := [.int r]) hL (c_X6_copy hM) yv_X6_copy ml_RL_163 ⟨by decide, by decide, rfl, rfl⟩ rfl rfl (Nat.le_of_ble_eq_true rfl) dL_law_1331 ?_
  refine l_eqT (tgt := 1339) hL dL_law_1334 (by decide) ?_
  exact kk _ _ hr
/-- what the proof of the class against the reference owes -/
def LawOps (N : Nat) (RR : zS → zS → Prop) : Prop := ∀ uc um : zS, RR uc um → (∀ a0, op_angel N RR uc um a0) ∧ (∀ a0 a1, op_figure N RR uc um a0 a1) ∧ (∀ a0, op_tune N RR uc um a0) ∧ op_hush N RR uc um ∧ (∀ a0 a1, op_of N RR uc um a0 a1) ∧ (∀ a0 a1, op_leads N RR uc um a0 a1) ∧ (∀ a0, op_at N RR uc um a0) ∧ (∀ a0, op_seen N RR uc um a0) ∧ (∀ a0, op_type N RR uc um a0) ∧ op_ring N RR uc um ∧ (∀ a0, op_count N RR uc um a0) ∧ (∀ a0, op_beats N RR uc um a0) ∧ (∀ a0, op_draught N RR uc um a0) ∧ (∀ a0, op_leave N RR uc um a0) ∧ (∀ a0 a1, op_come N RR uc um a0 a1) ∧ (∀ a0, op_drift N RR uc um a0) ∧ op_undo N RR uc um ∧ (∀ a0, op_seed N RR uc um a0) ∧ (∀ a0 a1, op_ahead N RR uc um a0 a1) ∧ (∀ a0 a1 a2, op_then N RR uc um a0 a1 a2) ∧ (∀ a0, op_back N RR uc um a0) ∧ (∀ a0, op_been N RR uc um a0) ∧ (∀ a0 a1, op_shortest N RR uc um a0 a1) ∧ op_sorts N RR uc um ∧ (∀ a0 a1 a2, op_apart N RR uc um a0 a1 a2) ∧ (∀ a0 a1 a2 a3, op_chance N RR uc um a0 a1 a2 a3) ∧ op_image N RR uc um ∧ op_restore N RR uc um ∧ (∀ a0 a1 a2 a3 a4 a5, op_counts N RR uc um a0 a1 a2 a3 a4 a5) ∧ (∀ a0 a1 a2 a3 a4 a5 a6, op_steps N RR uc um a0 a1 a2 a3 a4 a5 a6) ∧ (∀ a0 a1 a2 a3 a4, op_film N RR uc um a0 a1 a2 a3 a4) ∧ (∀ a0 a1 a2, op_sheet N RR uc um a0 a1 a2) ∧ (∀ a0, op_drop N RR uc um a0) ∧ (∀ a0 a1 a2 a3, op_item N RR uc um a0 a1 a2 a3) ∧ (∀ a0 a1 a2 a3 a4, op_copy N RR uc um a0 a1 a2 a3 a4)
set_option maxHeartbeats 8000000 in
set_option maxRecDepth 100000 in
theorem law_loop {l : Launch} {g : ClassId × ClassId × va_G} {X : zX} {b L : Nat} {xs : Nat → Int32} {aC aM : Nat → Nat} {N : Nat} {RR : zS → zS → Prop} (hLe : L ≤ 512) (hL : lC g X b L xs) (hO : LawOps N RR) : ∀ (n i : Nat), L + 8 ≤ i + 8 * n → i ≤ L + 8 → ∀ uc um : zS, RR uc um → lW l g X aC aM uc um 18 [(0, .ref b), (1, .ref (aC 0)), (2, .ref (aM 0)), (3, .int (nI i))] [] := by
  have done : ∀ (i : Nat) (uc um : zS), i ≤ L + 8 → L < i + 8 → lW l g X aC aM uc um 18 [(0, .ref b), (1, .ref (aC 0)), (2, .ref (aM 0)), (3, .int (nI i))] [] := by
    intro i uc um h1 h2
    refine l_iload_n hL dL_law_18 3 rfl ?_
    refine l_aload_n hL dL_law_19 0 rfl ?_
    refine l_slen hL dL_law_20 ?_
    refine l_bipush (v := 8) hL dL_law_21 (by decide) ?_
    refine l_isub hL dL_law_23 ?_
    refine l_icmp_gt (tgt := 1345) hL dL_law_24 (by decide) (fun _ => ?_) (fun c1 => ?_)
    · refine l_iconst (v := 1) hL dL_law_1345 (by decide) ?_
      exact l_end hL dL_law_1346
    · exfalso
      refine c1 ?_
      rw [Int32.lt_iff_toInt_lt, nI_toInt (by omega)]
      have := pk_sub_toInt (a := L) (b := 8) (by omega) (by omega)
      have e8 : (Int32.ofNat L - 8 : Int32) = nI L - nI 8 := rfl
      rw [e8, this]
      omega
  intro n
  induction n with
  | zero => intro i h1 h2 uc um hR; exact done i uc um h2 (by omega)
  | succ n ih =>
    intro i h1 h2 uc um hR
    by_cases hi : L < i + 8
    · exact done i uc um h2 hi
    generalize hx3 : nI i = x3
    have next : ∀ uc' um' : zS, RR uc' um' → lW l g X aC aM uc' um' 1339 [(0, .ref b), (1, .ref (aC 0)), (2, .ref (aM 0)), (3, .int x3)] [] := by
      intro uc' um' hR'
      refine l_iinc (v := 8) (lv' := [(3, .int (x3 + 8)), (0, .ref b), (1, .ref (aC 0)), (2, .ref (aM 0))]) hL dL_law_1339 3 rfl (by decide) (by decide) rfl ?_
      refine l_goto (tgt := 18) hL dL_law_1342 (by decide) ?_
      refine l_loc [1, 2, 3, 0] rfl ?_
      have := ih (i + 8) (by omega) (by omega) uc' um' hR'
      rw [← hx3, show nI i + 8 = nI (i + 8) from nI_add i 8]
      exact this
    have hxk : ∀ j : Nat, j < 8 → vp_in (x3 + nI j) L := by
      intro j hj
      rw [← hx3, nI_add]
      exact vp_in_nI (by omega) (by omega)
    have hx0 : vp_in x3 L := by
      rw [← hx3]
      exact vp_in_nI (by omega) (by omega)
    refine l_iload_n hL dL_law_18 3 rfl ?_
    refine l_aload_n hL dL_law_19 0 rfl ?_
    refine l_slen hL dL_law_20 ?_
    refine l_bipush (v := 8) hL dL_law_21 (by decide) ?_
    refine l_isub hL dL_law_23 ?_
    refine l_icmp_gt (tgt := 1345) hL dL_law_24 (by decide) (fun c1 => ?_) (fun _ => ?_)
    · exfalso
      rw [Int32.lt_iff_toInt_lt, ← hx3, nI_toInt (by omega)] at c1
      have := pk_sub_toInt (a := L) (b := 8) (by omega) (by omega)
      have e8 : (Int32.ofNat L - 8 : Int32) = nI L - nI 8 := rfl
      rw [e8, this] at c1
      omega
    refine l_aload_n hL dL_law_27 0 rfl ?_
    refine l_iload_n hL dL_law_28 3 rfl ?_
    refine l_sld hL hx0 dL_law_29 ?_
    refine l_bipush (v := 63) hL dL_law_30 (by decide) ?_
    refine l_iand hL dL_law_32 ?_
    obtain ⟨o0, o1, o2, o3, o4, o5, o6, o7, o8, o9, o10, o11, o12, o13, o14, o15, o16, o17, o18, o19, o20, o21, o22, o23, o24, o25, o26, o27, o28, o29, o30, o31, o32, o33, o34⟩ := hO uc um hR
    by_cases s0 : (xs (Int32.toNatClampNeg x3) &&& 63) = 0
    · refine l_tsIn (q := 0) (off := 155) (tgt := 188) hL dL_law_33 s0 (by decide) (by decide) ?_
      exact lc_angel hL (hxk 1 (by omega)) (o0 _) next
    · skip
      by_cases s1 : (xs (Int32.toNatClampNeg x3) &&& 63) = 1
      · refine l_tsIn (q := 1) (off := 178) (tgt := 211) hL dL_law_33 s1 (by decide) (by decide) ?_
        exact lc_figure hL (hxk 1 (by omega)) (hxk 2 (by omega)) (o1 _ _) next
      · skip
        by_cases s2 : (xs (Int32.toNatClampNeg x3) &&& 63) = 2
        · refine l_tsIn (q := 2) (off := 211) (tgt := 244) hL dL_law_33 s2 (by decide) (by decide) ?_
          exact lc_tune hL (hxk 1 (by omega)) (o2 _) next
        · skip
          by_cases s3 : (xs (Int32.toNatClampNeg x3) &&& 63) = 3
          · refine l_tsIn (q := 3) (off := 234) (tgt := 267) hL dL_law_33 s3 (by decide) (by decide) ?_
            exact lc_hush hL  (o3) next
          · skip
            by_cases s4 : (xs (Int32.toNatClampNeg x3) &&& 63) = 4
            · refine l_tsIn (q := 4) (off := 247) (tgt := 280) hL dL_law_33 s4 (by decide) (by decide) ?_
              exact lc_of hL (hxk 1 (by omega)) (hxk 2 (by omega)) (o4 _ _) next
            · skip
              by_cases s5 : (xs (Int32.toNatClampNeg x3) &&& 63) = 5
              · refine l_tsIn (q := 5) (off := 280) (tgt := 313) hL dL_law_33 s5 (by decide) (by decide) ?_
                exact lc_leads hL (hxk 1 (by omega)) (hxk 2 (by omega)) (o5 _ _) next
              · skip
                by_cases s6 : (xs (Int32.toNatClampNeg x3) &&& 63) = 6
                · refine l_tsIn (q := 6) (off := 313) (tgt := 346) hL dL_law_33 s6 (by decide) (by decide) ?_
                  exact lc_at hL (hxk 1 (by omega)) (o6 _) next
                · skip
                  by_cases s7 : (xs (Int32.toNatClampNeg x3) &&& 63) = 7
                  · refine l_tsIn (q := 7) (off := 336) (tgt := 369) hL dL_law_33 s7 (by decide) (by decide) ?_
                    exact lc_seen hL (hxk 1 (by omega)) (o7 _) next
                  · skip
                    by_cases s8 : (xs (Int32.toNatClampNeg x3) &&& 63) = 8
                    · refine l_tsIn (q := 8) (off := 359) (tgt := 392) hL dL_law_33 s8 (by decide) (by decide) ?_
                      exact lc_type hL (hxk 1 (by omega)) (o8 _) next
                    · skip
                      by_cases s9 : (xs (Int32.toNatClampNeg x3) &&& 63) = 9
                      · refine l_tsIn (q := 9) (off := 382) (tgt := 415) hL dL_law_33 s9 (by decide) (by decide) ?_
                        exact lc_ring hL  (o9) next
                      · skip
                        by_cases s10 : (xs (Int32.toNatClampNeg x3) &&& 63) = 10
                        · refine l_tsIn (q := 10) (off := 395) (tgt := 428) hL dL_law_33 s10 (by decide) (by decide) ?_
                          exact lc_count hL (hxk 1 (by omega)) (o10 _) next
                        · skip
                          by_cases s11 : (xs (Int32.toNatClampNeg x3) &&& 63) = 11
                          · refine l_tsIn (q := 11) (off := 418) (tgt := 451) hL dL_law_33 s11 (by decide) (by decide) ?_
                            exact lc_beats hL (hxk 1 (by omega)) (o11 _) next
                          · skip
                            by_cases s12 : (xs (Int32.toNatClampNeg x3) &&& 63) = 12
                            · refine l_tsIn (q := 12) (off := 441) (tgt := 474) hL dL_law_33 s12 (by decide) (by decide) ?_
                              exact lc_draught hL (hxk 1 (by omega)) (o12 _) next
                            · skip
                              by_cases s13 : (xs (Int32.toNatClampNeg x3) &&& 63) = 13
                              · refine l_tsIn (q := 13) (off := 464) (tgt := 497) hL dL_law_33 s13 (by decide) (by decide) ?_
                                exact lc_leave hL (hxk 1 (by omega)) (o13 _) next
                              · skip
                                by_cases s14 : (xs (Int32.toNatClampNeg x3) &&& 63) = 14
                                · refine l_tsIn (q := 14) (off := 487) (tgt := 520) hL dL_law_33 s14 (by decide) (by decide) ?_
                                  exact lc_come hL (hxk 1 (by omega)) (hxk 2 (by omega)) (o14 _ _) next
                                · skip
                                  by_cases s15 : (xs (Int32.toNatClampNeg x3) &&& 63) = 15
                                  · refine l_tsIn (q := 15) (off := 520) (tgt := 553) hL dL_law_33 s15 (by decide) (by decide) ?_
                                    exact lc_drift hL (hxk 1 (by omega)) (o15 _) next
                                  · skip
                                    by_cases s16 : (xs (Int32.toNatClampNeg x3) &&& 63) = 16
                                    · refine l_tsIn (q := 16) (off := 543) (tgt := 576) hL dL_law_33 s16 (by decide) (by decide) ?_
                                      exact lc_undo hL  (o16) next
                                    · skip
                                      by_cases s17 : (xs (Int32.toNatClampNeg x3) &&& 63) = 17
                                      · refine l_tsIn (q := 17) (off := 556) (tgt := 589) hL dL_law_33 s17 (by decide) (by decide) ?_
                                        exact lc_seed hL (hxk 1 (by omega)) (o17 _) next
                                      · skip
                                        by_cases s18 : (xs (Int32.toNatClampNeg x3) &&& 63) = 18
                                        · refine l_tsIn (q := 18) (off := 579) (tgt := 612) hL dL_law_33 s18 (by decide) (by decide) ?_
                                          exact lc_ahead hL (hxk 1 (by omega)) (hxk 2 (by omega)) (o18 _ _) next
                                        · skip
                                          by_cases s19 : (xs (Int32.toNatClampNeg x3) &&& 63) = 19
                                          · refine l_tsIn (q := 19) (off := 612) (tgt := 645) hL dL_law_33 s19 (by decide) (by decide) ?_
                                            exact lc_then hL (hxk 1 (by omega)) (hxk 2 (by omega)) (hxk 3 (by omega)) (o19 _ _ _) next
                                          · skip
                                            by_cases s20 : (xs (Int32.toNatClampNeg x3) &&& 63) = 20
                                            · refine l_tsIn (q := 20) (off := 655) (tgt := 688) hL dL_law_33 s20 (by decide) (by decide) ?_
                                              exact lc_back hL (hxk 1 (by omega)) (o20 _) next
                                            · skip
                                              by_cases s21 : (xs (Int32.toNatClampNeg x3) &&& 63) = 21
                                              · refine l_tsIn (q := 21) (off := 678) (tgt := 711) hL dL_law_33 s21 (by decide) (by decide) ?_
                                                exact lc_been hL (hxk 1 (by omega)) (o21 _) next
                                              · skip
                                                by_cases s22 : (xs (Int32.toNatClampNeg x3) &&& 63) = 22
                                                · refine l_tsIn (q := 22) (off := 701) (tgt := 734) hL dL_law_33 s22 (by decide) (by decide) ?_
                                                  exact lc_shortest hL (hxk 1 (by omega)) (hxk 2 (by omega)) (o22 _ _) next
                                                · skip
                                                  by_cases s23 : (xs (Int32.toNatClampNeg x3) &&& 63) = 23
                                                  · refine l_tsIn (q := 23) (off := 734) (tgt := 767) hL dL_law_33 s23 (by decide) (by decide) ?_
                                                    exact lc_sorts hL  (o23) next
                                                  · skip
                                                    by_cases s24 : (xs (Int32.toNatClampNeg x3) &&& 63) = 24
                                                    · refine l_tsIn (q := 24) (off := 747) (tgt := 780) hL dL_law_33 s24 (by decide) (by decide) ?_
                                                      exact lc_apart hL (hxk 1 (by omega)) (hxk 2 (by omega)) (hxk 3 (by omega)) (o24 _ _ _) next
                                                    · skip
                                                      by_cases s25 : (xs (Int32.toNatClampNeg x3) &&& 63) = 25
                                                      · refine l_tsIn (q := 25) (off := 790) (tgt := 823) hL dL_law_33 s25 (by decide) (by decide) ?_
                                                        exact lc_chance hL (hxk 1 (by omega)) (hxk 2 (by omega)) (hxk 3 (by omega)) (hxk 4 (by omega)) (o25 _ _ _ _) next
                                                      · skip
                                                        by_cases s26 : (xs (Int32.toNatClampNeg x3) &&& 63) = 26
                                                        · refine l_tsIn (q := 26) (off := 843) (tgt := 876) hL dL_law_33 s26 (by decide) (by decide) ?_
                                                          exact lc_image hL  (o26) next
                                                        · skip
                                                          by_cases s27 : (xs (Int32.toNatClampNeg x3) &&& 63) = 27
                                                          · refine l_tsIn (q := 27) (off := 856) (tgt := 889) hL dL_law_33 s27 (by decide) (by decide) ?_
                                                            exact lc_restore hL  (o27) next
                                                          · skip
                                                            by_cases s28 : (xs (Int32.toNatClampNeg x3) &&& 63) = 28
                                                            · refine l_tsIn (q := 28) (off := 869) (tgt := 902) hL dL_law_33 s28 (by decide) (by decide) ?_
                                                              exact lc_counts hL (hxk 1 (by omega)) (hxk 2 (by omega)) (hxk 3 (by omega)) (hxk 4 (by omega)) (hxk 5 (by omega)) (hxk 6 (by omega)) (o28 _ _ _ _ _ _) next
                                                            · skip
                                                              by_cases s29 : (xs (Int32.toNatClampNeg x3) &&& 63) = 29
                                                              · refine l_tsIn (q := 29) (off := 944) (tgt := 977) hL dL_law_33 s29 (by decide) (by decide) ?_
                                                                exact lc_steps hL (hxk 1 (by omega)) (hxk 2 (by omega)) (hxk 3 (by omega)) (hxk 4 (by omega)) (hxk 5 (by omega)) (hxk 6 (by omega)) (hxk 7 (by omega)) (o29 _ _ _ _ _ _ _) next
                                                              · skip
                                                                by_cases s30 : (xs (Int32.toNatClampNeg x3) &&& 63) = 30
                                                                · refine l_tsIn (q := 30) (off := 1031) (tgt := 1064) hL dL_law_33 s30 (by decide) (by decide) ?_
                                                                  exact lc_film hL (hxk 1 (by omega)) (hxk 2 (by omega)) (hxk 3 (by omega)) (hxk 4 (by omega)) (hxk 5 (by omega)) (o30 _ _ _ _ _) next
                                                                · skip
                                                                  by_cases s31 : (xs (Int32.toNatClampNeg x3) &&& 63) = 31
                                                                  · refine l_tsIn (q := 31) (off := 1094) (tgt := 1127) hL dL_law_33 s31 (by decide) (by decide) ?_
                                                                    exact lc_sheet hL (hxk 1 (by omega)) (hxk 2 (by omega)) (hxk 3 (by omega)) (o31 _ _ _) next
                                                                  · skip
                                                                    by_cases s32 : (xs (Int32.toNatClampNeg x3) &&& 63) = 32
                                                                    · refine l_tsIn (q := 32) (off := 1137) (tgt := 1170) hL dL_law_33 s32 (by decide) (by decide) ?_
                                                                      exact lc_drop hL (hxk 1 (by omega)) (o32 _) next
                                                                    · skip
                                                                      by_cases s33 : (xs (Int32.toNatClampNeg x3) &&& 63) = 33
                                                                      · refine l_tsIn (q := 33) (off := 1160) (tgt := 1193) hL dL_law_33 s33 (by decide) (by decide) ?_
                                                                        exact lc_item hL (hxk 1 (by omega)) (hxk 2 (by omega)) (hxk 3 (by omega)) (hxk 4 (by omega)) (hxk 5 (by omega)) (o33 _ _ _ _) next
                                                                      · skip
                                                                        by_cases s34 : (xs (Int32.toNatClampNeg x3) &&& 63) = 34
                                                                        · refine l_tsIn (q := 34) (off := 1243) (tgt := 1276) hL dL_law_33 s34 (by decide) (by decide) ?_
                                                                          exact lc_copy hL (hxk 1 (by omega)) (hxk 2 (by omega)) (hxk 3 (by omega)) (hxk 4 (by omega)) (hxk 5 (by omega)) (o34 _ _ _ _ _) next
                                                                        · skip
                                                                          refine l_tsOut (tgt := 1339) hL dL_law_33 (by have z0 := lv_neT (a := 0) s0 rfl; have z1 := lv_neT (a := 1) s1 rfl; have z2 := lv_neT (a := 2) s2 rfl; have z3 := lv_neT (a := 3) s3 rfl; have z4 := lv_neT (a := 4) s4 rfl; have z5 := lv_neT (a := 5) s5 rfl; have z6 := lv_neT (a := 6) s6 rfl; have z7 := lv_neT (a := 7) s7 rfl; have z8 := lv_neT (a := 8) s8 rfl; have z9 := lv_neT (a := 9) s9 rfl; have z10 := lv_neT (a := 10) s10 rfl; have z11 := lv_neT (a := 11) s11 rfl; have z12 := lv_neT (a := 12) s12 rfl; have z13 := lv_neT (a := 13) s13 rfl; have z14 := lv_neT (a := 14) s14 rfl; have z15 := lv_neT (a := 15) s15 rfl; have z16 := lv_neT (a := 16) s16 rfl; have z17 := lv_neT (a := 17) s17 rfl; have z18 := lv_neT (a := 18) s18 rfl; have z19 := lv_neT (a := 19) s19 rfl; have z20 := lv_neT (a := 20) s20 rfl; have z21 := lv_neT (a := 21) s21 rfl; have z22 := lv_neT (a := 22) s22 rfl; have z23 := lv_neT (a := 23) s23 rfl; have z24 := lv_neT (a := 24) s24 rfl; have z25 := lv_neT (a := 25) s25 rfl; have z26 := lv_neT (a := 26) s26 rfl; have z27 := lv_neT (a := 27) s27 rfl; have z28 := lv_neT (a := 28) s28 rfl; have z29 := lv_neT (a := 29) s29 rfl; have z30 := lv_neT (a := 30) s30 rfl; have z31 := lv_neT (a := 31) s31 rfl; have z32 := lv_neT (a := 32) s32 rfl; have z33 := lv_neT (a := 33) s33 rfl; have z34 := lv_neT (a := 34) s34 rfl; omega) (by decide) ?_
                                                                          exact next uc um hR
