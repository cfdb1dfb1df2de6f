/-! THE LAW'S BEGINNING: both objects are made; then the loop -/
def mW (l : Launch) (g : ClassId × ClassId × va_G) (X : zX) (kc ks : Nat) (ws : va_W) (pc : Nat) (lv : List (Nat × Value)) (st : List Value) : Prop :=
  ∀ (H : Heap) (locs : List Loc) (ls : Array Slot), va_P g.2.2 vwCl ws H → va_D X.2.2 ws → va_S X.2.2 X.1.2.2.heap H locs → lv_has ls X.2.1.2.2.2.2.maxLocals lv →
    W X.1.1 l X.1.2.1 room_1 X.1.2.2 X.2.1.1 X.2.1.2.1 X.2.1.2.2.1 X.2.1.2.2.2.1 X.2.1.2.2.2.2 H locs kc ks (lw_Z X.2.1.2.2.1 X.2.1.2.1 X.1.2.2) (F0 X.2.1.1 pc ls st)
section
variable {l : Launch} {g : ClassId × ClassId × va_G} {X : zX} {b L : Nat} {xs : Nat → Int32} {kc ks : Nat} {ws : va_W} {pc : Nat} {lv : List (Nat × Value)} {st : List Value}
theorem m_dup (hL : lC g X b L xs) {va : Value} (hd : decode cL_law pc = .ok (.dup, 1)) (hv : va.category = 1) (k : mW l g X kc ks ws (pc + 1) lv (va :: va :: st)) : mW l g X kc ks ws pc lv (va :: st) := fun H locs ls h1 h2 h3 h4 => lv_dup hL.1.1 hL.1.2.1 hd hv (k H locs ls h1 h2 h3 h4)
theorem m_iconst (hL : lC g X b L xs) {n : Int} {v : Int32} (hd : decode cL_law pc = .ok (.iconst n, 1)) (hv : Int32.ofInt n = v) (k : mW l g X kc ks ws (pc + 1) lv (.int v :: st)) : mW l g X kc ks ws pc lv st := fun H locs ls h1 h2 h3 h4 => lv_iconst hL.1.1 hL.1.2.1 hd hv (k H locs ls h1 h2 h3 h4)
theorem m_istore (hL : lC g X b L xs) {k : Fin 4} {i : Nat} {x : Int32} {lv' : List (Nat × Value)} (hd : decode cL_law pc = .ok (.istore_n k, 1)) (hi : (k : Nat) = i) (hn : i < 4) (hl : (i, Value.int x) :: lv.filter (fun q => !(q.1 == i) && !(q.1 + 1 == i && q.2.category == 2)) = lv') (kk : mW l g X kc ks ws (pc + 1) lv' st) : mW l g X kc ks ws pc lv (Value.int x :: st) := fun H locs ls h1 h2 h3 h4 => lv_istore_n hL.1.1 hL.1.2.1 hd hi h4 (by rw [hL.1.2.2.1]; exact hn) hl (fun ls' h => kk H locs ls' h1 h2 h3 h)
theorem m_astore (hL : lC g X b L xs) {k : Fin 4} {i x : Nat} {lv' : List (Nat × Value)} (hd : decode cL_law pc = .ok (.astore_n k, 1)) (hi : (k : Nat) = i) (hn : i < 4) (hl : (i, Value.ref x) :: lv.filter (fun q => !(q.1 == i) && !(q.1 + 1 == i && q.2.category == 2)) = lv') (kk : mW l g X kc ks ws (pc + 1) lv' st) : mW l g X kc ks ws pc lv (Value.ref x :: st) := fun H locs ls h1 h2 h3 h4 => lv_astore_n hL.1.1 hL.1.2.1 hd hi h4 (by rw [hL.1.2.2.1]; exact hn) hl (fun ls' h => kk H locs ls' h1 h2 h3 h)
theorem m_loc {lv' : List (Nat × Value)} (ks2 : List Nat) (hl : lv_pick lv ks2 = lv') (k : mW l g X kc ks ws pc lv' st) : mW l g X kc ks ws pc lv st := fun H locs ls h1 h2 h3 h4 => k H locs ls h1 h2 h3 (lv_sub h4 ks2 hl)
theorem m_new (hL : lC g X b L xs) {idx ci N : Nat} {fs : List Value} (hF : zNw RL idx ci N fs) (hc : kc + 1 ≤ room_1.cells) (hs : ks + N ≤ room_1.slots) (hd : decode cL_law pc = .ok (.new idx, 3)) (kk : ∀ q : Nat, mW l g X (kc + 1) (ks + N) (ws ++ [(q, .inr (ci, fs))]) (pc + 3) lv (.ref q :: st)) : mW l g X kc ks ws pc lv st := by
  obtain ⟨C, T, ty0, f1, f2, f3, f4, f5, f6, f7⟩ := hF
  have hC := hL.1
  exact fun H locs ls h1 h2 h3 h4 => va_new hC.1 hC.2.1 hC.2.2.2.2.1 f2 ty0 f3 hC.2.2.2.1 (hC.2.2.2.2.1 _ f4) (hC.2.2.2.2.1 _ f5) (hC.2.2.2.2.1 _ f6) hC.2.2.2.2.2.1 h1 h2 h3 hC.2.2.2.2.2.2.1 f1 f7 hc hs hd (fun q H1 g1 g2 g3 => kk q H1 locs ls g1 g2 g3 h4)
theorem m_init (hL : lC g X b L xs) {y : MethodName} {bytes : ByteArray} {maxL idx ci c1 s1 : Nat} {rm : Room} {fs : List Value} {Kc : Nat → va_W → Prop} {q : Nat} {rest : List Value} (hM : iM l y bytes maxL rm (fun _ => 0, g) c1 s1 ci fs Kc) (hY : Cond.code y bytes maxL none ∈ tblG ∧ Cond.instanceMethod y ∈ tblG ∧ Cond.initialized y.cls ∈ tblG ∧ zNm y 0 ∧ y.name = "<init>") (hK : Cond.methodLink RL idx y ∈ tblG) (hN : ∀ w ∈ zNsI, va_Nw w X.1.2.2) (hR : rm.frames + 1 ≤ room_1.frames ∧ 8 + (maxL + 11) + rm.locals ≤ room_1.locals ∧ rm.cells = c1 ∧ rm.slots = s1) (hf : kc + c1 ≤ room_1.cells ∧ ks + s1 ≤ room_1.slots) (hw : (rest.map fun v => v.category).sum ≤ 8) (hd : decode cL_law pc = .ok (.invokespecial idx, 3))
    (kk : ∀ w1 : va_W, Kc q w1 → mW l g X (kc + c1) (ks + s1) (ws ++ w1) (pc + 3) lv rest) : mW l g X kc ks (ws ++ [(q, .inr (ci, fs))]) pc lv (.ref q :: rest) := by
  obtain ⟨y1, y2, y3, y4, y5⟩ := hY
  obtain ⟨r1, r2, r3, r4⟩ := hR
  have hC := hL.1
  intro H locs ls h1 h2 h3 h4
  have hFc : ∀ q', va_A [(q, .inr (ci, fs))] H.size q' → X.2.2 q' := by
    intro q' hq
    rcases hq with ⟨k, e, hk⟩ | hq
    · exact (ap_Dr h2).2 k _ hk
    · exact hC.2.2.2.2.2.2.1 q' (Nat.le_trans h3.1 hq)
  have run := va_runI (l := l) (e := X.1.2.1) (R := room_1) (below := X.2.1.2.2.1) (meth := X.2.1.2.2.2.1) (H := H) (locs := locs) (cells := kc) (slots := ks) (g := F0 X.2.1.1 pc ls (.ref q :: rest)) (As := []) (rest := rest) (cc := cL_law) (nL := 4) (own := RL) (Ts := tblG) (bytes := bytes) (maxL := maxL) (n := 0) (index := idx) (b := q) ⟨hC.1, hC.2.1, hC.2.2.1, hC.2.2.2.1, hC.2.2.2.2.1⟩ (hM q H.size) (cwI (ws' := tblG) 0 hC.2.2.2.2.1 (tblG_in y1) rfl r3 r4 (hC.2.2.2.2.1 _ y3) (hC.2.2.2.2.1 _ hK) (hC.2.2.2.2.1 _ y2) y5 y4 ⟨r1, r2⟩) ⟨iPre_blind, fun U hU hW => ⟨rfl, by rw [hU], by rw [hU]; exact ap_Pr h1, va_K.moved hW.alike hC.2.2.2.2.2.1, (ap_Dr h2).weaken (fun _ _ _ _ => trivial), zNsI_warm hW hN⟩⟩ rfl rfl (h4.1.trans hC.2.2.1) rfl (lv_room hw) hd hf
  intro T hT XX
  obtain ⟨v', st₀, t, T', Lq, h0, X', hL', e1, e2, ⟨⟨hv, w1, hk1, hP', hK', hD'⟩, hz, hkk⟩, stp⟩ := run T hT XX
  have hv' : v' = none := Outcome.returned.inj hv
  subst hv'
  rw [h0] at hz hkk
  have hS : va_S X.2.2 X.1.2.2.heap T'.heap (locs ++ Lq) := ⟨Nat.le_trans h3.1 (by rw [e1]; exact hz), fun q g1 g2 => by rw [e1, hkk q (Nat.lt_of_lt_of_le g1 h3.1) (fun z => g2 (hFc q z))]; exact h3.2.1 q g1 g2, fun q hq => by
      rcases List.mem_append.mp hq with h | h
      · exact h3.2.2 q h
      · exact hFc _ (hL' q h)⟩
  obtain ⟨hPj, hDj⟩ := ap_joinr (H1 := T'.heap) h1 h2 (by rw [e1]; exact hkk) hFc (by rw [e1]; exact hP') hD'
  obtain ⟨t2, a1, b1⟩ := kk w1 hk1 T'.heap (locs ++ Lq) ls hPj hDj hS h4 T' rfl X'
  exact ⟨t2, stp t2 a1, b1⟩
end
set_option maxHeartbeats 8000000 in
set_option maxRecDepth 100000 in
/-- from the entry, over any relation that holds of both new objects and that every operation keeps -/
theorem whole_open {N : Nat} {RR : zS → zS → Prop} (h00 : RR uC0 uM0) (hO : LawOps N RR) {p : Program} {e : Env} {s : State} {m : MethodId} {below : List Frame} {meth : Method} {c : Code} (l : Launch) {b L : Nat} {xs : Nat → Int32} (hLe : L ≤ 512) (C0 : lw_At p s m meth c b L xs) : W p l e room_1 s m #[Value.ref b] below meth c s.heap [] 0 0 (lw_Z below #[Value.ref b] s) (entryFrame m ([Value.ref b] : List Value).toArray 4) := by
  obtain ⟨hx, hb, hr, hml, hown, hts, hX, hbl, hlocks, hgv⟩ := id C0
  have htG : ∀ w ∈ tblG, w.before #[Value.ref b] s = true := fun w hw => hts w (List.mem_filter.mp hw).1
  obtain ⟨c0, iS0, hKn0⟩ := u_known (C := RX0) (T := TX0) (N := 5) (n := 5) htG iX0 (htG (.instantiable RX0 5) (tbl1 26 (by decide +kernel) rfl))
  obtain ⟨c1, iS1, hKn1⟩ := u_known (C := RX1) (T := TX1) (N := 11) (n := 11) htG iX1 (htG (.instantiable RX1 11) (tbl1 20 (by decide +kernel) rfl))
  obtain ⟨c2, iS2, hKn2⟩ := u_known (C := RX2) (T := TX2) (N := 5) (n := 5) htG iX2 (htG (.instantiable RX2 5) (tbl1 134 (by decide +kernel) rfl))
  obtain ⟨c3, iS3, hKn3⟩ := u_known (C := RX3) (T := TX3) (N := 3) (n := 3) htG iX3 (htG (.instantiable RX3 3) (tbl1 116 (by decide +kernel) rfl))
  obtain ⟨c4, iS4, hKn4⟩ := u_known (C := RX4) (T := TX4) (N := 3) (n := 3) htG iX4 (htG (.instantiable RX4 3) (tbl1 99 (by decide +kernel) rfl))
  obtain ⟨c5, iS5, hKn5⟩ := u_known (C := RX5) (T := TX5) (N := 9) (n := 9) htG iX5 (htG (.instantiable RX5 9) (tbl1 12 (by decide +kernel) rfl))
  obtain ⟨c6, iS6, hKn6⟩ := u_known (C := RX6) (T := TX6) (N := 16) (n := 16) htG iX6 (htG (.instantiable RX6 16) (tbl1 639 (by decide +kernel) rfl))
  obtain ⟨dC, dI, hKc⟩ : ∃ (dC : Nat → ClassId) (dI : Nat → Nat → Nat), ∀ (k : Nat) (q : vw_C), vwCl[k]? = some q → u_Kn s q.1 q.2.1 q.2.2 (dC k) (dI k) := by
    refine ⟨fun k => if k = 0 then c0 else if k = 1 then c1 else if k = 2 then c2 else if k = 3 then c3 else if k = 4 then c4 else if k = 5 then c5 else c6, fun k => if k = 0 then iS0 else if k = 1 then iS1 else if k = 2 then iS2 else if k = 3 then iS3 else if k = 4 then iS4 else if k = 5 then iS5 else iS6, ?_⟩
    intro k q hq
    match k, hq with
    | 0, hq => cases hq; exact hKn0
    | 1, hq => cases hq; exact hKn1
    | 2, hq => cases hq; exact hKn2
    | 3, hq => cases hq; exact hKn3
    | 4, hq => cases hq; exact hKn4
    | 5, hq => cases hq; exact hKn5
    | 6, hq => cases hq; exact hKn6
    | k + 7, hq => simp [vwCl] at hq
  obtain ⟨cI, kI, compI, hfI, hkI, hkdI⟩ := Cond.arrayClass_spec (htG (.arrayClass .int) ar_int)
  obtain ⟨cJ, kJ, compJ, hfJ, hkJ, hkdJ⟩ := Cond.arrayClass_spec (htG (.arrayClass .long) ar_long)
  have hK : va_K (dC, dI) vwCl [(cI, .int), (cJ, .long)] s := by
    refine ⟨hKc, fun k q h => ?_⟩
    match k, h with
    | 0, h => cases h; exact ⟨fun n z => ⟨fun k h => (by cases h), kI, hkI, compI, hkdI⟩, hfI⟩
    | 1, h => cases h; exact ⟨fun n z => ⟨fun k h => (by cases h), kJ, hkJ, compJ, hkdJ⟩, hfJ⟩
    | k + 2, h => simp at h
  have hL : lC (cI, cJ, (dC, dI)) ((p, e, s), (m, #[Value.ref b], below, meth, c), fun q : Nat => s.heap.size ≤ q) b L xs :=
    ⟨⟨hx, hb, hml, hown, htG, hK, fun _ h => h, hr, hlocks, fun w hw => va_Nw.of (by revert w hw; decide +kernel) (hts w (zNst_in w hw))⟩, rfl, hX, hbl, Nat.not_le.mpr hbl, fun _ h => h⟩
  have hNI : ∀ w ∈ zNsI, va_Nw w s := fun w hw => va_Nw.of (by revert w hw; decide +kernel) (hts w (zNsI_in w hw))
  have hP : va_P (dC, dI) vwCl [] s.heap := fun k q h => by simp at h
  have hD : va_D (fun q : Nat => s.heap.size ≤ q) [] := ⟨fun i j p q h => by simp at h, fun k q h => by simp at h⟩
  have hl := lv_entry ([.ref b]) (n := 4) (Nat.le_of_ble_eq_true rfl)
  rw [lg_entry_eq]
  suffices hm : mW l (cI, cJ, (dC, dI)) ((p, e, s), (m, #[Value.ref b], below, meth, c), fun q : Nat => s.heap.size ≤ q) 0 0 [] 0 [(0, .ref b)] [] from hm s.heap [] _ hP hD va_S.rf (by rw [show (((p, e, s), (m, #[Value.ref b], below, meth, c), fun q : Nat => s.heap.size ≤ q) : zX).2.1.2.2.2.2.maxLocals = 4 from hml]; exact hl)
  refine m_new hL nw_RL_7 (by decide) (by decide) dL_law_0 (fun q1 => ?_)
  refine m_dup hL dL_law_3 rfl ?_
  refine m_init (ws := []) hL c_X5_init yi_X5_init ml_RL_9 hNI ⟨by decide, by decide, rfl, rfl⟩ ⟨by decide, by decide⟩ (Nat.le_of_ble_eq_true rfl) dL_law_4 ?_
  rintro _ ⟨aC, eC, rfl⟩
  subst eC
  refine m_astore (lv' := [(1, .ref (aC 0)), (0, .ref b)]) hL dL_law_7 rfl (by decide) rfl ?_
  refine m_new hL nw_RL_10 (by decide) (by decide) dL_law_8 (fun q2 => ?_)
  refine m_dup hL dL_law_11 rfl ?_
  refine m_init hL c_X6_init yi_X6_init ml_RL_12 hNI ⟨by decide, by decide, rfl, rfl⟩ ⟨by decide, by decide⟩ (Nat.le_of_ble_eq_true rfl) dL_law_12 ?_
  rintro _ ⟨aM, eM, rfl⟩
  subst eM
  refine m_astore (lv' := [(2, .ref (aM 0)), (1, .ref (aC 0)), (0, .ref b)]) hL dL_law_15 rfl (by decide) rfl ?_
  refine m_iconst (v := 0) hL dL_law_16 (by decide) ?_
  refine m_istore (lv' := [(3, .int 0), (2, .ref (aM 0)), (1, .ref (aC 0)), (0, .ref b)]) hL dL_law_17 rfl (by decide) rfl ?_
  refine m_loc [3, 2, 1, 0] rfl ?_
  exact law_loop (aC := aC) (aM := aM) hLe hL hO (L + 1) 0 (by omega) (by omega) uC0 uM0 h00
