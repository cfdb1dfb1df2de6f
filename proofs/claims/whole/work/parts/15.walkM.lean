set_option maxHeartbeats 4000000 in
set_option maxRecDepth 100000 in
theorem t_X6_in {l : Launch} {G : zG} {X : zX} {K : Option Value → zS → Prop} (hC : zC G X cX6_in 6 RX6 (some .boolean)) {u : zS} {v0 : Int64} {v2 : Int64} {v4 : Int64} (o : Int32) (hf : f_X6_in v0 v2 v4 = o) (hk : K (some (.int o)) u) : zW dscM l rm_X6_in G X K u 0 [(0, .long v0), (2, .long v2), (4, .long v4)] [] := by
  unfold f_X6_in at hf
  refine r_lload_n hC dX6_in_0 0 rfl ?_
  refine r_lload_n hC dX6_in_1 1 rfl ?_
  refine r_lcmp hC dX6_in_2 ?_
  refine r_if_lt (tgt := 17) hC dX6_in_3 (by decide) (fun c1 => ?_) (fun c1 => ?_)
  · have hf := ite_t c1 hf
    refine r_iconst (v := 0) hC dX6_in_17 (by decide) ?_
    subst hf
    exact r_zret hC rfl dX6_in_18 hk
  · have hf := ite_f c1 hf
    refine r_lload_n hC dX6_in_6 0 rfl ?_
    refine r_lload hC dX6_in_7 2 rfl ?_
    refine r_lcmp hC dX6_in_9 ?_
    refine r_if_gt (tgt := 17) hC dX6_in_10 (by decide) (fun c2 => ?_) (fun c2 => ?_)
    · have hf := ite_t c2 hf
      refine r_iconst (v := 0) hC dX6_in_17 (by decide) ?_
      subst hf
      exact r_zret hC rfl dX6_in_18 hk
    · have hf := ite_f c2 hf
      refine r_iconst (v := 1) hC dX6_in_13 (by decide) ?_
      refine r_goto (tgt := 18) hC dX6_in_14 (by decide) ?_
      subst hf
      exact r_zret hC rfl dX6_in_18 hk
set_option maxHeartbeats 4000000 in
set_option maxRecDepth 100000 in
theorem c_X6_in {l : Launch} {G : zG} {u : zS} {v0 : Int64} {v2 : Int64} {v4 : Int64} : zM l dscM yX6_in cX6_in 6 (some .boolean) rm_X6_in G [.long v0, .long v2, .long v4] u (some (.int (f_X6_in v0 v2 v4))) u := zM.of (by decide) (Nat.le_of_ble_eq_true rfl) (fun X hC => t_X6_in hC _ rfl ⟨rfl, rfl⟩)
set_option maxHeartbeats 4000000 in
set_option maxRecDepth 100000 in
theorem bz_X6_in (v0 : Int64) (v2 : Int64) (v4 : Int64) : narrow .boolean (.int (f_X6_in v0 v2 v4)) = .int (f_X6_in v0 v2 v4) := zz_nar (by unfold f_X6_in; (repeat' split) <;> simp)
set_option maxHeartbeats 4000000 in
set_option maxRecDepth 100000 in
theorem t_X6_has {l : Launch} {G : zG} {X : zX} {K : Option Value → zS → Prop} (hC : zC G X cX6_has 2 RX6 (some .boolean)) {u : zS} {v0 : Int32} {v1 : Int32} (o : Int32) (hf : f_X6_has v0 v1 = o) (hk : K (some (.int o)) u) : zW dscM l rm_X6_has G X K u 0 [(0, .int v0), (1, .int v1)] [] := by
  unfold f_X6_has at hf
  refine r_iload_n hC dX6_has_0 0 rfl ?_
  refine r_iload_n hC dX6_has_1 1 rfl ?_
  refine r_ishr (x := v0) (y := v1) hC dX6_has_2 ?_
  refine r_iconst (v := 1) hC dX6_has_3 (by decide) ?_
  refine r_iand hC dX6_has_4 ?_
  refine r_iconst (v := 1) hC dX6_has_5 (by decide) ?_
  refine r_icmp_ne (tgt := 13) hC dX6_has_6 (by decide) (fun c1 => ?_) (fun c1 => ?_)
  · have hf := ite_f c1 hf
    refine r_iconst (v := 0) hC dX6_has_13 (by decide) ?_
    subst hf
    exact r_zret hC rfl dX6_has_14 hk
  · have hf := ite_t c1 hf
    refine r_iconst (v := 1) hC dX6_has_9 (by decide) ?_
    refine r_goto (tgt := 14) hC dX6_has_10 (by decide) ?_
    subst hf
    exact r_zret hC rfl dX6_has_14 hk
set_option maxHeartbeats 4000000 in
set_option maxRecDepth 100000 in
theorem c_X6_has {l : Launch} {G : zG} {u : zS} {v0 : Int32} {v1 : Int32} : zM l dscM yX6_has cX6_has 2 (some .boolean) rm_X6_has G [.int v0, .int v1] u (some (.int (f_X6_has v0 v1))) u := zM.of (by decide) (Nat.le_of_ble_eq_true rfl) (fun X hC => t_X6_has hC _ rfl ⟨rfl, rfl⟩)
set_option maxHeartbeats 4000000 in
set_option maxRecDepth 100000 in
theorem bz_X6_has (v0 : Int32) (v1 : Int32) : narrow .boolean (.int (f_X6_has v0 v1)) = .int (f_X6_has v0 v1) := zz_nar (by unfold f_X6_has; (repeat' split) <;> simp)
set_option maxHeartbeats 4000000 in
set_option maxRecDepth 100000 in
theorem t_X6_ones_L4_B {l : Launch} {G : zG} {X : zX} {K : Option Value → zS → Prop} (hC : zC G X cX6_ones 3 RX6 (some .int)) {N : Nat} {v0 : Int32} {u : zS} {rec : Int32 → Int32 → Option (Int32)} (hrec : ∀ (v1 : Int32) (v2 : Int32) (o : Int32), rec v1 v2 = some o → zW dscM l rm_X6_ones G X K u 24 [(1, .int o)] [] → zW dscM l rm_X6_ones G X K u 4 [(0, .int v0), (1, .int v1), (2, .int v2)] []) : ∀ (v1 : Int32) (v2 : Int32) (o : Int32), f_X6_ones_L4_B N v0 rec v1 v2 = some o → zW dscM l rm_X6_ones G X K u 24 [(1, .int o)] [] → zW dscM l rm_X6_ones G X K u 4 [(0, .int v0), (1, .int v1), (2, .int v2)] [] := by
  intro v1 v2 o hf hk
  unfold f_X6_ones_L4_B at hf
  refine r_iload_n hC dX6_ones_4 2 rfl ?_
  refine r_bipush (v := 8) hC dX6_ones_5 (by decide) ?_
  refine r_icmp_ge (tgt := 24) hC dX6_ones_7 (by decide) (fun c1 => ?_) (fun c1 => ?_)
  · have hf := ite_t c1 hf
    have hf := Option.some.inj hf
    subst hf
    refine r_loc [1] rfl ?_
    exact hk
  · have hf := ite_f c1 hf
    refine r_iload_n hC dX6_ones_10 1 rfl ?_
    refine r_iload_n hC dX6_ones_11 0 rfl ?_
    refine r_iload_n hC dX6_ones_12 2 rfl ?_
    refine r_ishr (x := v0) (y := v2) hC dX6_ones_13 ?_
    refine r_iconst (v := 1) hC dX6_ones_14 (by decide) ?_
    refine r_iand hC dX6_ones_15 ?_
    refine r_iadd hC dX6_ones_16 ?_
    refine r_topi (fun w2 ew2 => ?_)
    have hf := olet_at ew2 hf
    refine r_istore_n (lv' := [(1, .int w2), (0, .int v0), (2, .int v2)]) hC dX6_ones_17 rfl (by decide) rfl ?_
    refine r_iinc (v := 1) (lv' := [(2, .int (v2 + 1)), (1, .int w2), (0, .int v0)]) hC dX6_ones_18 2 rfl (by decide) (by decide) rfl ?_
    refine r_goto (tgt := 4) hC dX6_ones_21 (by decide) ?_
    refine r_loc [2, 1, 0] rfl ?_
    exact hrec w2 (v2 + 1) o hf hk
set_option maxHeartbeats 4000000 in
set_option maxRecDepth 100000 in
theorem t_X6_ones_L4 {l : Launch} {G : zG} {X : zX} {K : Option Value → zS → Prop} (hC : zC G X cX6_ones 3 RX6 (some .int)) {N : Nat} {v0 : Int32} {u : zS} : ∀ (n : Nat) (v1 : Int32) (v2 : Int32) (o : Int32), f_X6_ones_L4 N v0 n v1 v2 = some o → zW dscM l rm_X6_ones G X K u 24 [(1, .int o)] [] → zW dscM l rm_X6_ones G X K u 4 [(0, .int v0), (1, .int v1), (2, .int v2)] [] := by
  intro n
  induction n with
  | zero => intro v1 v2 o hf; cases hf
  | succ n ih => intro v1 v2 o hf hk; exact t_X6_ones_L4_B hC (rec := f_X6_ones_L4 N v0 n) ih v1 v2 o hf hk
set_option maxHeartbeats 4000000 in
set_option maxRecDepth 100000 in
theorem t_X6_ones {l : Launch} {G : zG} {X : zX} {K : Option Value → zS → Prop} (hC : zC G X cX6_ones 3 RX6 (some .int)) {N : Nat} {u : zS} {v0 : Int32} (o : Int32) (hf : f_X6_ones N v0 = some o) (hk : K (some (.int o)) u) : zW dscM l rm_X6_ones G X K u 0 [(0, .int v0)] [] := by
  unfold f_X6_ones at hf
  refine r_iconst (v := 0) hC dX6_ones_0 (by decide) ?_
  refine r_istore_n (lv' := [(1, .int 0), (0, .int v0)]) hC dX6_ones_1 rfl (by decide) rfl ?_
  refine r_iconst (v := 0) hC dX6_ones_2 (by decide) ?_
  refine r_istore_n (lv' := [(2, .int 0), (1, .int 0), (0, .int v0)]) hC dX6_ones_3 rfl (by decide) rfl ?_
  refine r_loc [2, 1, 0] rfl ?_
  obtain ⟨q3, eq3, hf⟩ := ob_some hf
  refine t_X6_ones_L4 hC N 0 0 q3 eq3 ?_
  refine r_iload_n hC dX6_ones_24 0 rfl ?_
  have hf := Option.some.inj hf
  subst hf
  exact r_iret hC dX6_ones_25 hk
set_option maxHeartbeats 4000000 in
set_option maxRecDepth 100000 in
theorem c_X6_ones {l : Launch} {G : zG} {N : Nat} {u : zS} {v0 : Int32} {r : Int32} (hf : f_X6_ones N v0 = some r) : zM l dscM yX6_ones cX6_ones 3 (some .int) rm_X6_ones G [.int v0] u (some (.int r)) u := zM.of (by decide) (Nat.le_of_ble_eq_true rfl) (fun X hC => t_X6_ones hC r hf ⟨rfl, rfl⟩)
set_option maxHeartbeats 4000000 in
set_option maxRecDepth 100000 in
theorem t_X6_bring_L3_B {l : Launch} {G : zG} {X : zX} {K : Option Value → zS → Prop} (hC : zC G X cX6_bring 5 RX6 none) {N : Nat} {v1 : Int32} {v2 : Int32} {v3 : Int32} {rec : zS → Int32 → Option (zS)} (hrec : ∀ (u : zS) (v4 : Int32) (o : zS), rec u v4 = some o → zW dscM l rm_X6_bring G X K o 33 [] [] → zW dscM l rm_X6_bring G X K u 3 [(0, .ref (G.1 0)), (1, .int v1), (2, .int v2), (3, .int v3), (4, .int v4)] []) : ∀ (u : zS) (v4 : Int32) (o : zS), f_X6_bring_L3_B N v1 v2 v3 rec u v4 = some o → zW dscM l rm_X6_bring G X K o 33 [] [] → zW dscM l rm_X6_bring G X K u 3 [(0, .ref (G.1 0)), (1, .int v1), (2, .int v2), (3, .int v3), (4, .int v4)] [] := by
  intro u v4 o hf hk
  unfold f_X6_bring_L3_B at hf
  refine r_iload hC dX6_bring_3 4 rfl ?_
  refine r_iload_n hC dX6_bring_5 3 rfl ?_
  refine r_icmp_ge (tgt := 33) hC dX6_bring_6 (by decide) (fun c1 => ?_) (fun c1 => ?_)
  · have hf := ite_t c1 hf
    have hf := Option.some.inj hf
    subst hf
    refine r_loc [] rfl ?_
    exact hk
  · have hf := ite_f c1 hf
    refine r_aload_n hC dX6_bring_9 0 rfl ?_
    refine r_getr hC fd_RX6_7 dM_0 rfl dX6_bring_10 ?_
    refine r_iload_n hC dX6_bring_13 2 rfl ?_
    refine r_iload hC dX6_bring_14 4 rfl ?_
    refine r_iadd hC dX6_bring_16 ?_
    refine r_aload_n hC dX6_bring_17 0 rfl ?_
    refine r_getr hC fd_RX6_7 dM_0 rfl dX6_bring_18 ?_
    refine r_iload_n hC dX6_bring_21 1 rfl ?_
    refine r_iload hC dX6_bring_22 4 rfl ?_
    refine r_iadd hC dX6_bring_24 ?_
    obtain ⟨g2, hf⟩ := og_in hf
    refine r_iald hC dM_1 g2 dX6_bring_25 ?_
    obtain ⟨g3, hf⟩ := og_in hf
    refine r_iast hC dM_1 g3 dX6_bring_26 ?_
    refine r_tops (fun u4 eu4 => ?_)
    have hf := olet_at eu4 hf
    refine r_iinc (v := 1) (lv' := [(4, .int (v4 + 1)), (0, .ref (G.1 0)), (1, .int v1), (2, .int v2), (3, .int v3)]) hC dX6_bring_27 4 rfl (by decide) (by decide) rfl ?_
    refine r_goto (tgt := 3) hC dX6_bring_30 (by decide) ?_
    refine r_loc [1, 2, 3, 4, 0] rfl ?_
    exact hrec u4 (v4 + 1) o hf hk
set_option maxHeartbeats 4000000 in
set_option maxRecDepth 100000 in
theorem t_X6_bring_L3 {l : Launch} {G : zG} {X : zX} {K : Option Value → zS → Prop} (hC : zC G X cX6_bring 5 RX6 none) {N : Nat} {v1 : Int32} {v2 : Int32} {v3 : Int32} : ∀ (n : Nat) (u : zS) (v4 : Int32) (o : zS), f_X6_bring_L3 N v1 v2 v3 n u v4 = some o → zW dscM l rm_X6_bring G X K o 33 [] [] → zW dscM l rm_X6_bring G X K u 3 [(0, .ref (G.1 0)), (1, .int v1), (2, .int v2), (3, .int v3), (4, .int v4)] [] := by
  intro n
  induction n with
  | zero => intro u v4 o hf; cases hf
  | succ n ih => intro u v4 o hf hk; exact t_X6_bring_L3_B hC (rec := f_X6_bring_L3 N v1 v2 v3 n) ih u v4 o hf hk
set_option maxHeartbeats 4000000 in
set_option maxRecDepth 100000 in
theorem t_X6_bring {l : Launch} {G : zG} {X : zX} {K : Option Value → zS → Prop} (hC : zC G X cX6_bring 5 RX6 none) {N : Nat} {u : zS} {v1 : Int32} {v2 : Int32} {v3 : Int32} (o : zS) (hf : f_X6_bring N u v1 v2 v3 = some o) (hk : K none o) : zW dscM l rm_X6_bring G X K u 0 [(0, .ref (G.1 0)), (1, .int v1), (2, .int v2), (3, .int v3)] [] := by
  unfold f_X6_bring at hf
  refine r_iconst (v := 0) hC dX6_bring_0 (by decide) ?_
  refine r_istore (lv' := [(4, .int 0), (0, .ref (G.1 0)), (1, .int v1), (2, .int v2), (3, .int v3)]) hC dX6_bring_1 (by decide) rfl ?_
  refine r_loc [1, 2, 3, 4, 0] rfl ?_
  obtain ⟨q5, eq5, hf⟩ := ob_some hf
  refine t_X6_bring_L3 hC N u 0 q5 eq5 ?_
  have hf := Option.some.inj hf
  subst hf
  exact r_vret hC dX6_bring_33 hk
set_option maxHeartbeats 4000000 in
set_option maxRecDepth 100000 in
theorem c_X6_bring {l : Launch} {G : zG} {N : Nat} {u : zS} {v1 : Int32} {v2 : Int32} {v3 : Int32} {r : zS} (hf : f_X6_bring N u v1 v2 v3 = some r) : zM l dscM yX6_bring cX6_bring 5 none rm_X6_bring G [.ref (G.1 0), .int v1, .int v2, .int v3] u none r := zM.of (by decide) (Nat.le_of_ble_eq_true rfl) (fun X hC => t_X6_bring hC r hf ⟨rfl, rfl⟩)
set_option maxHeartbeats 4000000 in
set_option maxRecDepth 100000 in
theorem t_X6_isPlace {l : Launch} {G : zG} {X : zX} {K : Option Value → zS → Prop} (hC : zC G X cX6_isPlace 1 RX6 (some .boolean)) {u : zS} {v0 : Int32} (o : Int32) (hf : f_X6_isPlace v0 = o) (hk : K (some (.int o)) u) : zW dscM l rm_X6_isPlace G X K u 0 [(0, .int v0)] [] := by
  unfold f_X6_isPlace at hf
  refine r_iload_n hC dX6_isPlace_0 0 rfl ?_
  refine r_i2l hC dX6_isPlace_1 ?_
  refine r_lconst (v := 0) hC dX6_isPlace_2 (by decide) ?_
  refine r_ldc2 hC cn_RX6_50 dX6_isPlace_3 ?_
  refine r_csi (As := [.long (Int32.toInt64 v0), .long 0, .long 7]) (rest := []) hC c_X6_in ys_X6_in ml_RX6_52 ⟨by decide, by decide, rfl, rfl⟩ rfl rfl (Nat.le_of_ble_eq_true rfl) dX6_isPlace_6 ?_
  subst hf
  exact r_zret hC (bz_X6_in (Int32.toInt64 v0) 0 7) dX6_isPlace_9 hk
set_option maxHeartbeats 4000000 in
set_option maxRecDepth 100000 in
theorem c_X6_isPlace {l : Launch} {G : zG} {u : zS} {v0 : Int32} : zM l dscM yX6_isPlace cX6_isPlace 1 (some .boolean) rm_X6_isPlace G [.int v0] u (some (.int (f_X6_isPlace v0))) u := zM.of (by decide) (Nat.le_of_ble_eq_true rfl) (fun X hC => t_X6_isPlace hC _ rfl ⟨rfl, rfl⟩)
set_option maxHeartbeats 4000000 in
set_option maxRecDepth 100000 in
theorem bz_X6_isPlace (v0 : Int32) : narrow .boolean (.int (f_X6_isPlace v0)) = .int (f_X6_isPlace v0) := by unfold f_X6_isPlace; exact (bz_X6_in (Int32.toInt64 v0) 0 7)
set_option maxHeartbeats 4000000 in
set_option maxRecDepth 100000 in
theorem t_X6_isAngel {l : Launch} {G : zG} {X : zX} {K : Option Value → zS → Prop} (hC : zC G X cX6_isAngel 2 RX6 (some .boolean)) {u : zS} {v1 : Int32} (o : Int32) (hf : f_X6_isAngel u v1 = o) (hk : K (some (.int o)) u) : zW dscM l rm_X6_isAngel G X K u 0 [(0, .ref (G.1 0)), (1, .int v1)] [] := by
  unfold f_X6_isAngel at hf
  refine r_iload_n hC dX6_isAngel_0 1 rfl ?_
  refine r_i2l hC dX6_isAngel_1 ?_
  refine r_lconst (v := 0) hC dX6_isAngel_2 (by decide) ?_
  refine r_aload_n hC dX6_isAngel_3 0 rfl ?_
  refine r_getr hC fd_RX6_7 dM_0 rfl dX6_isAngel_4 ?_
  refine r_iconst (v := 0) hC dX6_isAngel_7 (by decide) ?_
  refine r_ialdK (j := 0) hC dM_1 (inK (by decide)) dX6_isAngel_8 ?_
  refine r_iconst (v := 1) hC dX6_isAngel_9 (by decide) ?_
  refine r_isub hC dX6_isAngel_10 ?_
  refine r_i2l hC dX6_isAngel_11 ?_
  refine r_csi (As := [.long (Int32.toInt64 v1), .long 0, .long (Int32.toInt64 ((u.1 1 0) - 1))]) (rest := []) hC c_X6_in ys_X6_in ml_RX6_52 ⟨by decide, by decide, rfl, rfl⟩ rfl rfl (Nat.le_of_ble_eq_true rfl) dX6_isAngel_12 ?_
  subst hf
  exact r_zret hC (bz_X6_in (Int32.toInt64 v1) 0 (Int32.toInt64 ((u.1 1 0) - 1))) dX6_isAngel_15 hk
set_option maxHeartbeats 4000000 in
set_option maxRecDepth 100000 in
theorem c_X6_isAngel {l : Launch} {G : zG} {u : zS} {v1 : Int32} : zM l dscM yX6_isAngel cX6_isAngel 2 (some .boolean) rm_X6_isAngel G [.ref (G.1 0), .int v1] u (some (.int (f_X6_isAngel u v1))) u := zM.of (by decide) (Nat.le_of_ble_eq_true rfl) (fun X hC => t_X6_isAngel hC _ rfl ⟨rfl, rfl⟩)
set_option maxHeartbeats 4000000 in
set_option maxRecDepth 100000 in
theorem bz_X6_isAngel (u : zS) (v1 : Int32) : narrow .boolean (.int (f_X6_isAngel u v1)) = .int (f_X6_isAngel u v1) := by unfold f_X6_isAngel; exact (bz_X6_in (Int32.toInt64 v1) 0 (Int32.toInt64 ((u.1 1 0) - 1)))
set_option maxHeartbeats 4000000 in
set_option maxRecDepth 100000 in
theorem t_X6_isFigure {l : Launch} {G : zG} {X : zX} {K : Option Value → zS → Prop} (hC : zC G X cX6_isFigure 2 RX6 (some .boolean)) {u : zS} {v1 : Int32} (o : Int32) (hf : f_X6_isFigure u v1 = o) (hk : K (some (.int o)) u) : zW dscM l rm_X6_isFigure G X K u 0 [(0, .ref (G.1 0)), (1, .int v1)] [] := by
  unfold f_X6_isFigure at hf
  refine r_iload_n hC dX6_isFigure_0 1 rfl ?_
  refine r_i2l hC dX6_isFigure_1 ?_
  refine r_lconst (v := 0) hC dX6_isFigure_2 (by decide) ?_
  refine r_aload_n hC dX6_isFigure_3 0 rfl ?_
  refine r_getr hC fd_RX6_7 dM_0 rfl dX6_isFigure_4 ?_
  refine r_iconst (v := 1) hC dX6_isFigure_7 (by decide) ?_
  refine r_ialdK (j := 1) hC dM_1 (inK (by decide)) dX6_isFigure_8 ?_
  refine r_iconst (v := 1) hC dX6_isFigure_9 (by decide) ?_
  refine r_isub hC dX6_isFigure_10 ?_
  refine r_i2l hC dX6_isFigure_11 ?_
  refine r_csi (As := [.long (Int32.toInt64 v1), .long 0, .long (Int32.toInt64 ((u.1 1 1) - 1))]) (rest := []) hC c_X6_in ys_X6_in ml_RX6_52 ⟨by decide, by decide, rfl, rfl⟩ rfl rfl (Nat.le_of_ble_eq_true rfl) dX6_isFigure_12 ?_
  subst hf
  exact r_zret hC (bz_X6_in (Int32.toInt64 v1) 0 (Int32.toInt64 ((u.1 1 1) - 1))) dX6_isFigure_15 hk
set_option maxHeartbeats 4000000 in
set_option maxRecDepth 100000 in
theorem c_X6_isFigure {l : Launch} {G : zG} {u : zS} {v1 : Int32} : zM l dscM yX6_isFigure cX6_isFigure 2 (some .boolean) rm_X6_isFigure G [.ref (G.1 0), .int v1] u (some (.int (f_X6_isFigure u v1))) u := zM.of (by decide) (Nat.le_of_ble_eq_true rfl) (fun X hC => t_X6_isFigure hC _ rfl ⟨rfl, rfl⟩)
set_option maxHeartbeats 4000000 in
set_option maxRecDepth 100000 in
theorem bz_X6_isFigure (u : zS) (v1 : Int32) : narrow .boolean (.int (f_X6_isFigure u v1)) = .int (f_X6_isFigure u v1) := by unfold f_X6_isFigure; exact (bz_X6_in (Int32.toInt64 v1) 0 (Int32.toInt64 ((u.1 1 1) - 1)))
set_option maxHeartbeats 4000000 in
set_option maxRecDepth 100000 in
theorem t_X6_round {l : Launch} {G : zG} {X : zX} {K : Option Value → zS → Prop} (hC : zC G X cX6_round 2 RX6 (some .int)) {u : zS} {v0 : Int32} {v1 : Int32} (o : Int32) (hf : f_X6_round v0 v1 = o) (hk : K (some (.int o)) u) : zW dscM l rm_X6_round G X K u 0 [(0, .int v0), (1, .int v1)] [] := by
  unfold f_X6_round at hf
  refine r_iload_n hC dX6_round_0 0 rfl ?_
  refine r_iload_n hC dX6_round_1 1 rfl ?_
  refine r_iadd hC dX6_round_2 ?_
  refine r_bipush (v := 8) hC dX6_round_3 (by decide) ?_
  refine r_irem (x := (v0 + v1)) (y := 8) hC dX6_round_5 (by decide) ?_
  subst hf
  exact r_iret hC dX6_round_6 hk
set_option maxHeartbeats 4000000 in
set_option maxRecDepth 100000 in
theorem c_X6_round {l : Launch} {G : zG} {u : zS} {v0 : Int32} {v1 : Int32} : zM l dscM yX6_round cX6_round 2 (some .int) rm_X6_round G [.int v0, .int v1] u (some (.int (f_X6_round v0 v1))) u := zM.of (by decide) (Nat.le_of_ble_eq_true rfl) (fun X hC => t_X6_round hC _ rfl ⟨rfl, rfl⟩)
set_option maxHeartbeats 4000000 in
set_option maxRecDepth 100000 in
theorem t_X6_mirror {l : Launch} {G : zG} {X : zX} {K : Option Value → zS → Prop} (hC : zC G X cX6_mirror 2 RX6 (some .int)) {u : zS} {v0 : Int32} {v1 : Int32} (o : Int32) (hf : f_X6_mirror v0 v1 = o) (hk : K (some (.int o)) u) : zW dscM l rm_X6_mirror G X K u 0 [(0, .int v0), (1, .int v1)] [] := by
  unfold f_X6_mirror at hf
  refine r_bipush (v := 8) hC dX6_mirror_0 (by decide) ?_
  refine r_iload_n hC dX6_mirror_2 0 rfl ?_
  refine r_isub hC dX6_mirror_3 ?_
  refine r_bipush (v := 8) hC dX6_mirror_4 (by decide) ?_
  refine r_irem (x := (8 - v0)) (y := 8) hC dX6_mirror_6 (by decide) ?_
  refine r_iload_n hC dX6_mirror_7 1 rfl ?_
  refine r_csi (As := [.int ((8 - v0) - (8 - v0) / 8 * 8), .int v1]) (rest := []) hC c_X6_round ys_X6_round ml_RX6_56 ⟨by decide, by decide, rfl, rfl⟩ rfl rfl (Nat.le_of_ble_eq_true rfl) dX6_mirror_8 ?_
  subst hf
  exact r_iret hC dX6_mirror_11 hk
set_option maxHeartbeats 4000000 in
set_option maxRecDepth 100000 in
theorem c_X6_mirror {l : Launch} {G : zG} {u : zS} {v0 : Int32} {v1 : Int32} : zM l dscM yX6_mirror cX6_mirror 2 (some .int) rm_X6_mirror G [.int v0, .int v1] u (some (.int (f_X6_mirror v0 v1))) u := zM.of (by decide) (Nat.le_of_ble_eq_true rfl) (fun X hC => t_X6_mirror hC _ rfl ⟨rfl, rfl⟩)
set_option maxHeartbeats 4000000 in
set_option maxRecDepth 100000 in
theorem t_X6_leadsBy {l : Launch} {G : zG} {X : zX} {K : Option Value → zS → Prop} (hC : zC G X cX6_leadsBy 3 RX6 (some .int)) {u : zS} {v0 : Int32} {v1 : Int32} {v2 : Int32} (o : Int32) (hf : f_X6_leadsBy v0 v1 v2 = o) (hk : K (some (.int o)) u) : zW dscM l rm_X6_leadsBy G X K u 0 [(0, .int v0), (1, .int v1), (2, .int v2)] [] := by
  unfold f_X6_leadsBy at hf
  refine r_iload_n hC dX6_leadsBy_0 0 rfl ?_
  by_cases s1 : v0 = 1
  · have hf := ite_t s1 hf
    refine r_tsIn (q := 1) (off := 31) (tgt := 32) hC dX6_leadsBy_1 s1 (by decide) (by decide) ?_
    refine r_iload_n hC dX6_leadsBy_32 2 rfl ?_
    refine r_iload_n hC dX6_leadsBy_33 1 rfl ?_
    refine r_csi (As := [.int v2, .int v1]) (rest := []) hC c_X6_round ys_X6_round ml_RX6_56 ⟨by decide, by decide, rfl, rfl⟩ rfl rfl (Nat.le_of_ble_eq_true rfl) dX6_leadsBy_34 ?_
    refine r_iload_n hC dX6_leadsBy_37 1 rfl ?_
    refine r_csi (As := [.int (f_X6_round v2 v1), .int v1]) (rest := []) hC c_X6_round ys_X6_round ml_RX6_56 ⟨by decide, by decide, rfl, rfl⟩ rfl rfl (Nat.le_of_ble_eq_true rfl) dX6_leadsBy_38 ?_
    subst hf
    exact r_iret hC dX6_leadsBy_41 hk
  · have hf := ite_f s1 hf
    by_cases s2 : v0 = 2
    · have hf := ite_t s2 hf
      refine r_tsIn (q := 2) (off := 41) (tgt := 42) hC dX6_leadsBy_1 s2 (by decide) (by decide) ?_
      refine r_iload_n hC dX6_leadsBy_42 2 rfl ?_
      refine r_iload_n hC dX6_leadsBy_43 1 rfl ?_
      refine r_csi (As := [.int v2, .int v1]) (rest := []) hC c_X6_mirror ys_X6_mirror ml_RX6_60 ⟨by decide, by decide, rfl, rfl⟩ rfl rfl (Nat.le_of_ble_eq_true rfl) dX6_leadsBy_44 ?_
      subst hf
      exact r_iret hC dX6_leadsBy_47 hk
    · have hf := ite_f s2 hf
      by_cases s3 : v0 = 3
      · have hf := ite_t s3 hf
        refine r_tsIn (q := 3) (off := 47) (tgt := 48) hC dX6_leadsBy_1 s3 (by decide) (by decide) ?_
        refine r_iload_n hC dX6_leadsBy_48 2 rfl ?_
        refine r_iconst (v := 2) hC dX6_leadsBy_49 (by decide) ?_
        refine r_irem (x := v2) (y := 2) hC dX6_leadsBy_50 (by decide) ?_
        refine r_if_ne (tgt := 66) hC dX6_leadsBy_51 (by decide) (fun c4 => ?_) (fun c4 => ?_)
        · have hf := ite_f c4 hf
          refine r_iload_n hC dX6_leadsBy_66 2 rfl ?_
          subst hf
          exact r_iret hC dX6_leadsBy_67 hk
        · have hf := ite_t c4 hf
          refine r_iload_n hC dX6_leadsBy_54 2 rfl ?_
          refine r_iload_n hC dX6_leadsBy_55 1 rfl ?_
          refine r_csi (As := [.int v2, .int v1]) (rest := []) hC c_X6_round ys_X6_round ml_RX6_56 ⟨by decide, by decide, rfl, rfl⟩ rfl rfl (Nat.le_of_ble_eq_true rfl) dX6_leadsBy_56 ?_
          refine r_iload_n hC dX6_leadsBy_59 1 rfl ?_
          refine r_csi (As := [.int (f_X6_round v2 v1), .int v1]) (rest := []) hC c_X6_round ys_X6_round ml_RX6_56 ⟨by decide, by decide, rfl, rfl⟩ rfl rfl (Nat.le_of_ble_eq_true rfl) dX6_leadsBy_60 ?_
          refine r_goto (tgt := 67) hC dX6_leadsBy_63 (by decide) ?_
          subst hf
          exact r_iret hC dX6_leadsBy_67 hk
      · have hf := ite_f s3 hf
        by_cases s5 : v0 = 4
        · have hf := ite_t s5 hf
          refine r_tsIn (q := 4) (off := 67) (tgt := 68) hC dX6_leadsBy_1 s5 (by decide) (by decide) ?_
          refine r_iload_n hC dX6_leadsBy_68 2 rfl ?_
          refine r_iload_n hC dX6_leadsBy_69 1 rfl ?_
          refine r_csi (As := [.int v2, .int v1]) (rest := []) hC c_X6_mirror ys_X6_mirror ml_RX6_60 ⟨by decide, by decide, rfl, rfl⟩ rfl rfl (Nat.le_of_ble_eq_true rfl) dX6_leadsBy_70 ?_
          refine r_if_ne (tgt := 80) hC dX6_leadsBy_73 (by decide) (fun c6 => ?_) (fun c6 => ?_)
          · have hf := ite_f c6 hf
            refine r_iload_n hC dX6_leadsBy_80 2 rfl ?_
            refine r_iload_n hC dX6_leadsBy_81 1 rfl ?_
            refine r_csi (As := [.int v2, .int v1]) (rest := []) hC c_X6_mirror ys_X6_mirror ml_RX6_60 ⟨by decide, by decide, rfl, rfl⟩ rfl rfl (Nat.le_of_ble_eq_true rfl) dX6_leadsBy_82 ?_
            refine r_iconst (v := 4) hC dX6_leadsBy_85 (by decide) ?_
            refine r_icmp_ne (tgt := 93) hC dX6_leadsBy_86 (by decide) (fun c7 => ?_) (fun c7 => ?_)
            · have hf := ite_f c7 hf
              refine r_iload_n hC dX6_leadsBy_93 2 rfl ?_
              refine r_iload_n hC dX6_leadsBy_94 1 rfl ?_
              refine r_csi (As := [.int v2, .int v1]) (rest := []) hC c_X6_mirror ys_X6_mirror ml_RX6_60 ⟨by decide, by decide, rfl, rfl⟩ rfl rfl (Nat.le_of_ble_eq_true rfl) dX6_leadsBy_95 ?_
              subst hf
              exact r_iret hC dX6_leadsBy_98 hk
            · have hf := ite_t c7 hf
              refine r_iconst (v := 0) hC dX6_leadsBy_89 (by decide) ?_
              refine r_goto (tgt := 98) hC dX6_leadsBy_90 (by decide) ?_
              subst hf
              exact r_iret hC dX6_leadsBy_98 hk
          · have hf := ite_t c6 hf
            refine r_iconst (v := 4) hC dX6_leadsBy_76 (by decide) ?_
            refine r_goto (tgt := 98) hC dX6_leadsBy_77 (by decide) ?_
            subst hf
            exact r_iret hC dX6_leadsBy_98 hk
        · have hf := ite_f s5 hf
          refine r_tsOut (tgt := 99) hC dX6_leadsBy_1 (by have zs1 := lv_neT (a := 1) s1 rfl; have zs2 := lv_neT (a := 2) s2 rfl; have zs3 := lv_neT (a := 3) s3 rfl; have zs5 := lv_neT (a := 4) s5 rfl; omega) (by decide) ?_
          refine r_iload_n hC dX6_leadsBy_99 2 rfl ?_
          refine r_iload_n hC dX6_leadsBy_100 1 rfl ?_
          refine r_csi (As := [.int v2, .int v1]) (rest := []) hC c_X6_round ys_X6_round ml_RX6_56 ⟨by decide, by decide, rfl, rfl⟩ rfl rfl (Nat.le_of_ble_eq_true rfl) dX6_leadsBy_101 ?_
          subst hf
          exact r_iret hC dX6_leadsBy_104 hk
set_option maxHeartbeats 4000000 in
set_option maxRecDepth 100000 in
theorem c_X6_leadsBy {l : Launch} {G : zG} {u : zS} {v0 : Int32} {v1 : Int32} {v2 : Int32} : zM l dscM yX6_leadsBy cX6_leadsBy 3 (some .int) rm_X6_leadsBy G [.int v0, .int v1, .int v2] u (some (.int (f_X6_leadsBy v0 v1 v2))) u := zM.of (by decide) (Nat.le_of_ble_eq_true rfl) (fun X hC => t_X6_leadsBy hC _ rfl ⟨rfl, rfl⟩)
set_option maxHeartbeats 4000000 in
set_option maxRecDepth 100000 in
theorem t_X6_leadsOf {l : Launch} {G : zG} {X : zX} {K : Option Value → zS → Prop} (hC : zC G X cX6_leadsOf 3 RX6 (some .int)) {u : zS} {v1 : Int32} {v2 : Int32} (o : Int32) (hf : f_X6_leadsOf u v1 v2 = some o) (hk : K (some (.int o)) u) : zW dscM l rm_X6_leadsOf G X K u 0 [(0, .ref (G.1 0)), (1, .int v1), (2, .int v2)] [] := by
  unfold f_X6_leadsOf at hf
  refine r_aload_n hC dX6_leadsOf_0 0 rfl ?_
  refine r_getr hC fd_RX6_7 dM_0 rfl dX6_leadsOf_1 ?_
  refine r_bipush (v := 13) hC dX6_leadsOf_4 (by decide) ?_
  refine r_iload_n hC dX6_leadsOf_6 1 rfl ?_
  refine r_iadd hC dX6_leadsOf_7 ?_
  obtain ⟨g1, hf⟩ := og_in hf
  refine r_iald hC dM_1 g1 dX6_leadsOf_8 ?_
  refine r_aload_n hC dX6_leadsOf_9 0 rfl ?_
  refine r_getr hC fd_RX6_7 dM_0 rfl dX6_leadsOf_10 ?_
  refine r_bipush (v := 18) hC dX6_leadsOf_13 (by decide) ?_
  refine r_iload_n hC dX6_leadsOf_15 1 rfl ?_
  refine r_iadd hC dX6_leadsOf_16 ?_
  obtain ⟨g2, hf⟩ := og_in hf
  refine r_iald hC dM_1 g2 dX6_leadsOf_17 ?_
  refine r_iload_n hC dX6_leadsOf_18 2 rfl ?_
  refine r_csi (As := [.int (u.1 1 (Int32.toNatClampNeg (13 + v1))), .int (u.1 1 (Int32.toNatClampNeg (18 + v1))), .int v2]) (rest := []) hC c_X6_leadsBy ys_X6_leadsBy ml_RX6_63 ⟨by decide, by decide, rfl, rfl⟩ rfl rfl (Nat.le_of_ble_eq_true rfl) dX6_leadsOf_19 ?_
  have hf := Option.some.inj hf
  subst hf
  exact r_iret hC dX6_leadsOf_22 hk
set_option maxHeartbeats 4000000 in
set_option maxRecDepth 100000 in
theorem c_X6_leadsOf {l : Launch} {G : zG} {u : zS} {v1 : Int32} {v2 : Int32} {r : Int32} (hf : f_X6_leadsOf u v1 v2 = some r) : zM l dscM yX6_leadsOf cX6_leadsOf 3 (some .int) rm_X6_leadsOf G [.ref (G.1 0), .int v1, .int v2] u (some (.int r)) u := zM.of (by decide) (Nat.le_of_ble_eq_true rfl) (fun X hC => t_X6_leadsOf hC r hf ⟨rfl, rfl⟩)
set_option maxHeartbeats 4000000 in
set_option maxRecDepth 100000 in
theorem t_X6_orderOf_L7_B {l : Launch} {G : zG} {X : zX} {K : Option Value → zS → Prop} (hC : zC G X cX6_orderOf 5 RX6 (some .int)) {N : Nat} {v1 : Int32} {v2 : Int32} {v3 : Int32} {rec : zS → Int32 → Option (zS)} (hrec : ∀ (u : zS) (v4 : Int32) (o : zS), rec u v4 = some o → zW dscM l rm_X6_orderOf G X K o 29 [(0, .ref (G.1 0)), (1, .int v1), (2, .int v2), (3, .int v3)] [] → zW dscM l rm_X6_orderOf G X K u 7 [(0, .ref (G.1 0)), (1, .int v1), (2, .int v2), (3, .int v3), (4, .int v4)] []) : ∀ (u : zS) (v4 : Int32) (o : zS), f_X6_orderOf_L7_B N v1 v2 v3 rec u v4 = some o → zW dscM l rm_X6_orderOf G X K o 29 [(0, .ref (G.1 0)), (1, .int v1), (2, .int v2), (3, .int v3)] [] → zW dscM l rm_X6_orderOf G X K u 7 [(0, .ref (G.1 0)), (1, .int v1), (2, .int v2), (3, .int v3), (4, .int v4)] [] := by
  intro u v4 o hf hk
  unfold f_X6_orderOf_L7_B at hf
  refine r_iload hC dX6_orderOf_7 4 rfl ?_
  refine r_bipush (v := 8) hC dX6_orderOf_9 (by decide) ?_
  refine r_icmp_ge (tgt := 29) hC dX6_orderOf_11 (by decide) (fun c1 => ?_) (fun c1 => ?_)
  · have hf := ite_t c1 hf
    have hf := Option.some.inj hf
    subst hf
    refine r_loc [0, 1, 2, 3] rfl ?_
    exact hk
  · have hf := ite_f c1 hf
    refine r_aload_n hC dX6_orderOf_14 0 rfl ?_
    refine r_getr hC fd_RX6_26 dM_0 rfl dX6_orderOf_15 ?_
    refine r_iload hC dX6_orderOf_18 4 rfl ?_
    refine r_iload hC dX6_orderOf_20 4 rfl ?_
    obtain ⟨g2, hf⟩ := og_in hf
    refine r_iast hC dM_6 g2 dX6_orderOf_22 ?_
    refine r_tops (fun u3 eu3 => ?_)
    have hf := olet_at eu3 hf
    refine r_iinc (v := 1) (lv' := [(4, .int (v4 + 1)), (0, .ref (G.1 0)), (1, .int v1), (2, .int v2), (3, .int v3)]) hC dX6_orderOf_23 4 rfl (by decide) (by decide) rfl ?_
    refine r_goto (tgt := 7) hC dX6_orderOf_26 (by decide) ?_
    refine r_loc [1, 2, 3, 4, 0] rfl ?_
    exact hrec u3 (v4 + 1) o hf hk
set_option maxHeartbeats 4000000 in
set_option maxRecDepth 100000 in
theorem t_X6_orderOf_L7 {l : Launch} {G : zG} {X : zX} {K : Option Value → zS → Prop} (hC : zC G X cX6_orderOf 5 RX6 (some .int)) {N : Nat} {v1 : Int32} {v2 : Int32} {v3 : Int32} : ∀ (n : Nat) (u : zS) (v4 : Int32) (o : zS), f_X6_orderOf_L7 N v1 v2 v3 n u v4 = some o → zW dscM l rm_X6_orderOf G X K o 29 [(0, .ref (G.1 0)), (1, .int v1), (2, .int v2), (3, .int v3)] [] → zW dscM l rm_X6_orderOf G X K u 7 [(0, .ref (G.1 0)), (1, .int v1), (2, .int v2), (3, .int v3), (4, .int v4)] [] := by
  intro n
  induction n with
  | zero => intro u v4 o hf; cases hf
  | succ n ih => intro u v4 o hf hk; exact t_X6_orderOf_L7_B hC (rec := f_X6_orderOf_L7 N v1 v2 v3 n) ih u v4 o hf hk
set_option maxHeartbeats 4000000 in
set_option maxRecDepth 100000 in
theorem t_X6_orderOf_L41_B {l : Launch} {G : zG} {X : zX} {K : Option Value → zS → Prop} (hC : zC G X cX6_orderOf 5 RX6 (some .int)) {N : Nat} {v1 : Int32} {v2 : Int32} {rec : zS → Int32 → Int32 → Option (Int32 × zS)} (hrec : ∀ (u : zS) (v3 : Int32) (v4 : Int32) (o : Int32 × zS), rec u v3 v4 = some o → zW dscM l rm_X6_orderOf G X K o.2 95 [(0, .ref (G.1 0)), (1, .int v1), (2, .int v2), (3, .int o.1)] [] → zW dscM l rm_X6_orderOf G X K u 41 [(0, .ref (G.1 0)), (1, .int v1), (2, .int v2), (3, .int v3), (4, .int v4)] []) : ∀ (u : zS) (v3 : Int32) (v4 : Int32) (o : Int32 × zS), f_X6_orderOf_L41_B N v1 v2 rec u v3 v4 = some o → zW dscM l rm_X6_orderOf G X K o.2 95 [(0, .ref (G.1 0)), (1, .int v1), (2, .int v2), (3, .int o.1)] [] → zW dscM l rm_X6_orderOf G X K u 41 [(0, .ref (G.1 0)), (1, .int v1), (2, .int v2), (3, .int v3), (4, .int v4)] [] := by
  intro u v3 v4 o hf hk
  unfold f_X6_orderOf_L41_B at hf
  refine r_iload hC dX6_orderOf_41 4 rfl ?_
  refine r_bipush (v := 8) hC dX6_orderOf_43 (by decide) ?_
  refine r_icmp_ge (tgt := 95) hC dX6_orderOf_45 (by decide) (fun c6 => ?_) (fun c6 => ?_)
  · have hf := ite_t c6 hf
    have hf := Option.some.inj hf
    subst hf
    refine r_loc [0, 1, 2, 3] rfl ?_
    exact hk
  · have hf := ite_f c6 hf
    refine r_aload_n hC dX6_orderOf_48 0 rfl ?_
    refine r_getr hC fd_RX6_26 dM_0 rfl dX6_orderOf_49 ?_
    refine r_iload hC dX6_orderOf_52 4 rfl ?_
    refine r_aload_n hC dX6_orderOf_54 0 rfl ?_
    refine r_iload_n hC dX6_orderOf_55 1 rfl ?_
    refine r_aload_n hC dX6_orderOf_56 0 rfl ?_
    refine r_getr hC fd_RX6_26 dM_0 rfl dX6_orderOf_57 ?_
    refine r_iload hC dX6_orderOf_60 4 rfl ?_
    obtain ⟨g7, hf⟩ := og_in hf
    refine r_iald hC dM_6 g7 dX6_orderOf_62 ?_
    obtain ⟨r8, er8, hf⟩ := ob_some hf
    refine r_cvi (As := [.int v1, .int (u.1 6 (Int32.toNatClampNeg v4))]) (rest := [.int v4, .ref (G.1 6)]) hC (c_X6_leadsOf er8) yv_X6_leadsOf ml_RX6_67 dM_0 ⟨by decide, by decide, rfl, rfl⟩ rfl rfl (Nat.le_of_ble_eq_true rfl) dX6_orderOf_63 ?_
    obtain ⟨g9, hf⟩ := og_in hf
    refine r_iast hC dM_6 g9 dX6_orderOf_66 ?_
    refine r_tops (fun u10 eu10 => ?_)
    have hf := olet_at eu10 hf
    refine r_iload_n hC dX6_orderOf_67 3 rfl ?_
    refine r_if_eq (tgt := 87) hC dX6_orderOf_68 (by decide) (fun c11 => ?_) (fun c11 => ?_)
    · have hf := ite_t c11 hf
      refine r_iconst (v := 0) hC dX6_orderOf_87 (by decide) ?_
      refine r_istore_n (lv' := [(3, .int 0), (0, .ref (G.1 0)), (1, .int v1), (2, .int v2), (4, .int v4)]) hC dX6_orderOf_88 rfl (by decide) rfl ?_
      refine r_iinc (v := 1) (lv' := [(4, .int (v4 + 1)), (3, .int 0), (0, .ref (G.1 0)), (1, .int v1), (2, .int v2)]) hC dX6_orderOf_89 4 rfl (by decide) (by decide) rfl ?_
      refine r_goto (tgt := 41) hC dX6_orderOf_92 (by decide) ?_
      refine r_loc [2, 3, 4, 1, 0] rfl ?_
      exact hrec u10 0 (v4 + 1) o hf hk
    · have hf := ite_f c11 hf
      refine r_aload_n hC dX6_orderOf_71 0 rfl ?_
      refine r_getr hC fd_RX6_26 dM_0 rfl dX6_orderOf_72 ?_
      refine r_iload hC dX6_orderOf_75 4 rfl ?_
      obtain ⟨g12, hf⟩ := og_in hf
      refine r_iald hC dM_6 g12 dX6_orderOf_77 ?_
      refine r_iload hC dX6_orderOf_78 4 rfl ?_
      refine r_icmp_ne (tgt := 87) hC dX6_orderOf_80 (by decide) (fun c13 => ?_) (fun c13 => ?_)
      · have hf := ite_f c13 hf
        refine r_iconst (v := 0) hC dX6_orderOf_87 (by decide) ?_
        refine r_istore_n (lv' := [(3, .int 0), (0, .ref (G.1 0)), (1, .int v1), (2, .int v2), (4, .int v4)]) hC dX6_orderOf_88 rfl (by decide) rfl ?_
        refine r_iinc (v := 1) (lv' := [(4, .int (v4 + 1)), (3, .int 0), (0, .ref (G.1 0)), (1, .int v1), (2, .int v2)]) hC dX6_orderOf_89 4 rfl (by decide) (by decide) rfl ?_
        refine r_goto (tgt := 41) hC dX6_orderOf_92 (by decide) ?_
        refine r_loc [2, 3, 4, 1, 0] rfl ?_
        exact hrec u10 0 (v4 + 1) o hf hk
      · have hf := ite_t c13 hf
        refine r_iconst (v := 1) hC dX6_orderOf_83 (by decide) ?_
        refine r_goto (tgt := 88) hC dX6_orderOf_84 (by decide) ?_
        refine r_istore_n (lv' := [(3, .int 1), (0, .ref (G.1 0)), (1, .int v1), (2, .int v2), (4, .int v4)]) hC dX6_orderOf_88 rfl (by decide) rfl ?_
        refine r_iinc (v := 1) (lv' := [(4, .int (v4 + 1)), (3, .int 1), (0, .ref (G.1 0)), (1, .int v1), (2, .int v2)]) hC dX6_orderOf_89 4 rfl (by decide) (by decide) rfl ?_
        refine r_goto (tgt := 41) hC dX6_orderOf_92 (by decide) ?_
        refine r_loc [2, 3, 4, 1, 0] rfl ?_
        exact hrec u10 1 (v4 + 1) o hf hk
set_option maxHeartbeats 4000000 in
set_option maxRecDepth 100000 in
theorem t_X6_orderOf_L41 {l : Launch} {G : zG} {X : zX} {K : Option Value → zS → Prop} (hC : zC G X cX6_orderOf 5 RX6 (some .int)) {N : Nat} {v1 : Int32} {v2 : Int32} : ∀ (n : Nat) (u : zS) (v3 : Int32) (v4 : Int32) (o : Int32 × zS), f_X6_orderOf_L41 N v1 v2 n u v3 v4 = some o → zW dscM l rm_X6_orderOf G X K o.2 95 [(0, .ref (G.1 0)), (1, .int v1), (2, .int v2), (3, .int o.1)] [] → zW dscM l rm_X6_orderOf G X K u 41 [(0, .ref (G.1 0)), (1, .int v1), (2, .int v2), (3, .int v3), (4, .int v4)] [] := by
  intro n
  induction n with
  | zero => intro u v3 v4 o hf; cases hf
  | succ n ih => intro u v3 v4 o hf hk; exact t_X6_orderOf_L41_B hC (rec := f_X6_orderOf_L41 N v1 v2 n) ih u v3 v4 o hf hk
set_option maxHeartbeats 4000000 in
set_option maxRecDepth 100000 in
theorem t_X6_orderOf_L29_B {l : Launch} {G : zG} {X : zX} {K : Option Value → zS → Prop} (hC : zC G X cX6_orderOf 5 RX6 (some .int)) {N : Nat} {v1 : Int32} {rec : zS → Int32 → Int32 → Option (Int32 × zS)} (hrec : ∀ (u : zS) (v2 : Int32) (v3 : Int32) (o : Int32 × zS), rec u v2 v3 = some o → zW dscM l rm_X6_orderOf G X K o.2 98 [(2, .int o.1)] [] → zW dscM l rm_X6_orderOf G X K u 29 [(0, .ref (G.1 0)), (1, .int v1), (2, .int v2), (3, .int v3)] []) : ∀ (u : zS) (v2 : Int32) (v3 : Int32) (o : Int32 × zS), f_X6_orderOf_L29_B N v1 rec u v2 v3 = some o → zW dscM l rm_X6_orderOf G X K o.2 98 [(2, .int o.1)] [] → zW dscM l rm_X6_orderOf G X K u 29 [(0, .ref (G.1 0)), (1, .int v1), (2, .int v2), (3, .int v3)] [] := by
  intro u v2 v3 o hf hk
  unfold f_X6_orderOf_L29_B at hf
  refine r_iload_n hC dX6_orderOf_29 3 rfl ?_
  refine r_if_ne (tgt := 98) hC dX6_orderOf_30 (by decide) (fun c5 => ?_) (fun c5 => ?_)
  · have hf := ite_f c5 hf
    have hf := Option.some.inj hf
    subst hf
    refine r_loc [2] rfl ?_
    exact hk
  · have hf := ite_t c5 hf
    refine r_iconst (v := 1) hC dX6_orderOf_33 (by decide) ?_
    refine r_istore_n (lv' := [(3, .int 1), (0, .ref (G.1 0)), (1, .int v1), (2, .int v2)]) hC dX6_orderOf_34 rfl (by decide) rfl ?_
    refine r_iinc (v := 1) (lv' := [(2, .int (v2 + 1)), (3, .int 1), (0, .ref (G.1 0)), (1, .int v1)]) hC dX6_orderOf_35 3 rfl (by decide) (by decide) rfl ?_
    refine r_iconst (v := 0) hC dX6_orderOf_38 (by decide) ?_
    refine r_istore (lv' := [(4, .int 0), (2, .int (v2 + 1)), (3, .int 1), (0, .ref (G.1 0)), (1, .int v1)]) hC dX6_orderOf_39 (by decide) rfl ?_
    refine r_loc [3, 4, 1, 2, 0] rfl ?_
    obtain ⟨q14, eq14, hf⟩ := ob_some hf
    refine t_X6_orderOf_L41 hC N u 1 0 q14 eq14 ?_
    refine r_goto (tgt := 29) hC dX6_orderOf_95 (by decide) ?_
    exact hrec q14.2 (v2 + 1) q14.1 o hf hk
set_option maxHeartbeats 4000000 in
set_option maxRecDepth 100000 in
theorem t_X6_orderOf_L29 {l : Launch} {G : zG} {X : zX} {K : Option Value → zS → Prop} (hC : zC G X cX6_orderOf 5 RX6 (some .int)) {N : Nat} {v1 : Int32} : ∀ (n : Nat) (u : zS) (v2 : Int32) (v3 : Int32) (o : Int32 × zS), f_X6_orderOf_L29 N v1 n u v2 v3 = some o → zW dscM l rm_X6_orderOf G X K o.2 98 [(2, .int o.1)] [] → zW dscM l rm_X6_orderOf G X K u 29 [(0, .ref (G.1 0)), (1, .int v1), (2, .int v2), (3, .int v3)] [] := by
  intro n
  induction n with
  | zero => intro u v2 v3 o hf; cases hf
  | succ n ih => intro u v2 v3 o hf hk; exact t_X6_orderOf_L29_B hC (rec := f_X6_orderOf_L29 N v1 n) ih u v2 v3 o hf hk
set_option maxHeartbeats 4000000 in
set_option maxRecDepth 100000 in
theorem t_X6_orderOf {l : Launch} {G : zG} {X : zX} {K : Option Value → zS → Prop} (hC : zC G X cX6_orderOf 5 RX6 (some .int)) {N : Nat} {u : zS} {v1 : Int32} (o : Int32 × zS) (hf : f_X6_orderOf N u v1 = some o) (hk : K (some (.int o.1)) o.2) : zW dscM l rm_X6_orderOf G X K u 0 [(0, .ref (G.1 0)), (1, .int v1)] [] := by
  unfold f_X6_orderOf at hf
  refine r_iconst (v := 0) hC dX6_orderOf_0 (by decide) ?_
  refine r_istore_n (lv' := [(2, .int 0), (0, .ref (G.1 0)), (1, .int v1)]) hC dX6_orderOf_1 rfl (by decide) rfl ?_
  refine r_iconst (v := 0) hC dX6_orderOf_2 (by decide) ?_
  refine r_istore_n (lv' := [(3, .int 0), (2, .int 0), (0, .ref (G.1 0)), (1, .int v1)]) hC dX6_orderOf_3 rfl (by decide) rfl ?_
  refine r_iconst (v := 0) hC dX6_orderOf_4 (by decide) ?_
  refine r_istore (lv' := [(4, .int 0), (3, .int 0), (2, .int 0), (0, .ref (G.1 0)), (1, .int v1)]) hC dX6_orderOf_5 (by decide) rfl ?_
  refine r_loc [3, 4, 2, 1, 0] rfl ?_
  obtain ⟨q4, eq4, hf⟩ := ob_some hf
  refine t_X6_orderOf_L7 hC N u 0 q4 eq4 ?_
  obtain ⟨q15, eq15, hf⟩ := ob_some hf
  refine t_X6_orderOf_L29 hC N q4 0 0 q15 eq15 ?_
  refine r_iload_n hC dX6_orderOf_98 0 rfl ?_
  have hf := Option.some.inj hf
  subst hf
  exact r_iret hC dX6_orderOf_99 hk
set_option maxHeartbeats 4000000 in
set_option maxRecDepth 100000 in
theorem c_X6_orderOf {l : Launch} {G : zG} {N : Nat} {u : zS} {v1 : Int32} {r : Int32 × zS} (hf : f_X6_orderOf N u v1 = some r) : zM l dscM yX6_orderOf cX6_orderOf 5 (some .int) rm_X6_orderOf G [.ref (G.1 0), .int v1] u (some (.int r.1)) r.2 := zM.of (by decide) (Nat.le_of_ble_eq_true rfl) (fun X hC => t_X6_orderOf hC r hf ⟨rfl, rfl⟩)
set_option maxHeartbeats 4000000 in
set_option maxRecDepth 100000 in
theorem t_X6_keptBy_L4_B {l : Launch} {G : zG} {X : zX} {K : Option Value → zS → Prop} (hC : zC G X cX6_keptBy 4 RX6 (some .int)) {N : Nat} {u : zS} {v1 : Int32} {rec : Int32 → Int32 → Option (Int32)} (hrec : ∀ (v2 : Int32) (v3 : Int32) (o : Int32), rec v2 v3 = some o → zW dscM l rm_X6_keptBy G X K u 36 [(2, .int o)] [] → zW dscM l rm_X6_keptBy G X K u 4 [(0, .ref (G.1 0)), (1, .int v1), (2, .int v2), (3, .int v3)] []) : ∀ (v2 : Int32) (v3 : Int32) (o : Int32), f_X6_keptBy_L4_B N u v1 rec v2 v3 = some o → zW dscM l rm_X6_keptBy G X K u 36 [(2, .int o)] [] → zW dscM l rm_X6_keptBy G X K u 4 [(0, .ref (G.1 0)), (1, .int v1), (2, .int v2), (3, .int v3)] [] := by
  intro v2 v3 o hf hk
  unfold f_X6_keptBy_L4_B at hf
  refine r_iload_n hC dX6_keptBy_4 3 rfl ?_
  refine r_bipush (v := 8) hC dX6_keptBy_5 (by decide) ?_
  refine r_icmp_ge (tgt := 36) hC dX6_keptBy_7 (by decide) (fun c1 => ?_) (fun c1 => ?_)
  · have hf := ite_t c1 hf
    have hf := Option.some.inj hf
    subst hf
    refine r_loc [2] rfl ?_
    exact hk
  · have hf := ite_f c1 hf
    refine r_iload_n hC dX6_keptBy_10 2 rfl ?_
    refine r_aload_n hC dX6_keptBy_11 0 rfl ?_
    refine r_iload_n hC dX6_keptBy_12 1 rfl ?_
    refine r_iload_n hC dX6_keptBy_13 3 rfl ?_
    obtain ⟨r2, er2, hf⟩ := ob_some hf
    refine r_cvi (As := [.int v1, .int v3]) (rest := [.int v2]) hC (c_X6_leadsOf er2) yv_X6_leadsOf ml_RX6_67 dM_0 ⟨by decide, by decide, rfl, rfl⟩ rfl rfl (Nat.le_of_ble_eq_true rfl) dX6_keptBy_14 ?_
    refine r_iload_n hC dX6_keptBy_17 3 rfl ?_
    refine r_icmp_ne (tgt := 27) hC dX6_keptBy_18 (by decide) (fun c3 => ?_) (fun c3 => ?_)
    · have hf := ite_f c3 hf
      refine r_iconst (v := 0) hC dX6_keptBy_27 (by decide) ?_
      refine r_ior hC dX6_keptBy_28 ?_
      refine r_istore_n (lv' := [(2, .int (v2 ||| 0)), (0, .ref (G.1 0)), (1, .int v1), (3, .int v3)]) hC dX6_keptBy_29 rfl (by decide) rfl ?_
      refine r_iinc (v := 1) (lv' := [(3, .int (v3 + 1)), (2, .int (v2 ||| 0)), (0, .ref (G.1 0)), (1, .int v1)]) hC dX6_keptBy_30 3 rfl (by decide) (by decide) rfl ?_
      refine r_goto (tgt := 4) hC dX6_keptBy_33 (by decide) ?_
      refine r_loc [2, 3, 1, 0] rfl ?_
      exact hrec (v2 ||| 0) (v3 + 1) o hf hk
    · have hf := ite_t c3 hf
      refine r_iconst (v := 1) hC dX6_keptBy_21 (by decide) ?_
      refine r_iload_n hC dX6_keptBy_22 3 rfl ?_
      refine r_ishl (x := 1) (y := v3) hC dX6_keptBy_23 ?_
      refine r_goto (tgt := 28) hC dX6_keptBy_24 (by decide) ?_
      refine r_ior hC dX6_keptBy_28 ?_
      refine r_topi (fun w4 ew4 => ?_)
      have hf := olet_at ew4 hf
      refine r_istore_n (lv' := [(2, .int w4), (0, .ref (G.1 0)), (1, .int v1), (3, .int v3)]) hC dX6_keptBy_29 rfl (by decide) rfl ?_
      refine r_iinc (v := 1) (lv' := [(3, .int (v3 + 1)), (2, .int w4), (0, .ref (G.1 0)), (1, .int v1)]) hC dX6_keptBy_30 3 rfl (by decide) (by decide) rfl ?_
      refine r_goto (tgt := 4) hC dX6_keptBy_33 (by decide) ?_
      refine r_loc [2, 3, 1, 0] rfl ?_
      exact hrec w4 (v3 + 1) o hf hk
set_option maxHeartbeats 4000000 in
set_option maxRecDepth 100000 in
theorem t_X6_keptBy_L4 {l : Launch} {G : zG} {X : zX} {K : Option Value → zS → Prop} (hC : zC G X cX6_keptBy 4 RX6 (some .int)) {N : Nat} {u : zS} {v1 : Int32} : ∀ (n : Nat) (v2 : Int32) (v3 : Int32) (o : Int32), f_X6_keptBy_L4 N u v1 n v2 v3 = some o → zW dscM l rm_X6_keptBy G X K u 36 [(2, .int o)] [] → zW dscM l rm_X6_keptBy G X K u 4 [(0, .ref (G.1 0)), (1, .int v1), (2, .int v2), (3, .int v3)] [] := by
  intro n
  induction n with
  | zero => intro v2 v3 o hf; cases hf
  | succ n ih => intro v2 v3 o hf hk; exact t_X6_keptBy_L4_B hC (rec := f_X6_keptBy_L4 N u v1 n) ih v2 v3 o hf hk
set_option maxHeartbeats 4000000 in
set_option maxRecDepth 100000 in
theorem t_X6_keptBy {l : Launch} {G : zG} {X : zX} {K : Option Value → zS → Prop} (hC : zC G X cX6_keptBy 4 RX6 (some .int)) {N : Nat} {u : zS} {v1 : Int32} (o : Int32) (hf : f_X6_keptBy N u v1 = some o) (hk : K (some (.int o)) u) : zW dscM l rm_X6_keptBy G X K u 0 [(0, .ref (G.1 0)), (1, .int v1)] [] := by
  unfold f_X6_keptBy at hf
  refine r_iconst (v := 0) hC dX6_keptBy_0 (by decide) ?_
  refine r_istore_n (lv' := [(2, .int 0), (0, .ref (G.1 0)), (1, .int v1)]) hC dX6_keptBy_1 rfl (by decide) rfl ?_
  refine r_iconst (v := 0) hC dX6_keptBy_2 (by decide) ?_
  refine r_istore_n (lv' := [(3, .int 0), (2, .int 0), (0, .ref (G.1 0)), (1, .int v1)]) hC dX6_keptBy_3 rfl (by decide) rfl ?_
  refine r_loc [2, 3, 1, 0] rfl ?_
  obtain ⟨q5, eq5, hf⟩ := ob_some hf
  refine t_X6_keptBy_L4 hC N 0 0 q5 eq5 ?_
  refine r_iload_n hC dX6_keptBy_36 0 rfl ?_
  have hf := Option.some.inj hf
  subst hf
  exact r_iret hC dX6_keptBy_37 hk
set_option maxHeartbeats 4000000 in
set_option maxRecDepth 100000 in
theorem c_X6_keptBy {l : Launch} {G : zG} {N : Nat} {u : zS} {v1 : Int32} {r : Int32} (hf : f_X6_keptBy N u v1 = some r) : zM l dscM yX6_keptBy cX6_keptBy 4 (some .int) rm_X6_keptBy G [.ref (G.1 0), .int v1] u (some (.int r)) u := zM.of (by decide) (Nat.le_of_ble_eq_true rfl) (fun X hC => t_X6_keptBy hC r hf ⟨rfl, rfl⟩)
set_option maxHeartbeats 4000000 in
set_option maxRecDepth 100000 in
theorem t_X6_areAlike_L5_B {l : Launch} {G : zG} {X : zX} {K : Option Value → zS → Prop} (hC : zC G X cX6_areAlike 5 RX6 (some .boolean)) {N : Nat} {u : zS} {v1 : Int32} {v2 : Int32} {rec : Int32 → Int32 → Option (Int32)} (hrec : ∀ (v3 : Int32) (v4 : Int32) (o : Int32), rec v3 v4 = some o → zW dscM l rm_X6_areAlike G X K u 45 [(3, .int o)] [] → zW dscM l rm_X6_areAlike G X K u 5 [(0, .ref (G.1 0)), (1, .int v1), (2, .int v2), (3, .int v3), (4, .int v4)] []) : ∀ (v3 : Int32) (v4 : Int32) (o : Int32), f_X6_areAlike_L5_B N u v1 v2 rec v3 v4 = some o → zW dscM l rm_X6_areAlike G X K u 45 [(3, .int o)] [] → zW dscM l rm_X6_areAlike G X K u 5 [(0, .ref (G.1 0)), (1, .int v1), (2, .int v2), (3, .int v3), (4, .int v4)] [] := by
  intro v3 v4 o hf hk
  unfold f_X6_areAlike_L5_B at hf
  refine r_iload hC dX6_areAlike_5 4 rfl ?_
  refine r_bipush (v := 8) hC dX6_areAlike_7 (by decide) ?_
  refine r_icmp_ge (tgt := 45) hC dX6_areAlike_9 (by decide) (fun c1 => ?_) (fun c1 => ?_)
  · have hf := ite_t c1 hf
    have hf := Option.some.inj hf
    subst hf
    refine r_loc [3] rfl ?_
    exact hk
  · have hf := ite_f c1 hf
    refine r_iload_n hC dX6_areAlike_12 3 rfl ?_
    refine r_if_eq (tgt := 37) hC dX6_areAlike_13 (by decide) (fun c2 => ?_) (fun c2 => ?_)
    · have hf := ite_t c2 hf
      refine r_iconst (v := 0) hC dX6_areAlike_37 (by decide) ?_
      refine r_istore_n (lv' := [(3, .int 0), (0, .ref (G.1 0)), (1, .int v1), (2, .int v2), (4, .int v4)]) hC dX6_areAlike_38 rfl (by decide) rfl ?_
      refine r_iinc (v := 1) (lv' := [(4, .int (v4 + 1)), (3, .int 0), (0, .ref (G.1 0)), (1, .int v1), (2, .int v2)]) hC dX6_areAlike_39 4 rfl (by decide) (by decide) rfl ?_
      refine r_goto (tgt := 5) hC dX6_areAlike_42 (by decide) ?_
      refine r_loc [2, 3, 4, 1, 0] rfl ?_
      exact hrec 0 (v4 + 1) o hf hk
    · have hf := ite_f c2 hf
      refine r_aload_n hC dX6_areAlike_16 0 rfl ?_
      refine r_iload_n hC dX6_areAlike_17 1 rfl ?_
      refine r_iload hC dX6_areAlike_18 4 rfl ?_
      obtain ⟨r3, er3, hf⟩ := ob_some hf
      refine r_cvi (As := [.int v1, .int v4]) (rest := []) hC (c_X6_leadsOf er3) yv_X6_leadsOf ml_RX6_67 dM_0 ⟨by decide, by decide, rfl, rfl⟩ rfl rfl (Nat.le_of_ble_eq_true rfl) dX6_areAlike_20 ?_
      refine r_aload_n hC dX6_areAlike_23 0 rfl ?_
      refine r_iload_n hC dX6_areAlike_24 2 rfl ?_
      refine r_iload hC dX6_areAlike_25 4 rfl ?_
      obtain ⟨r4, er4, hf⟩ := ob_some hf
      refine r_cvi (As := [.int v2, .int v4]) (rest := [.int r3]) hC (c_X6_leadsOf er4) yv_X6_leadsOf ml_RX6_67 dM_0 ⟨by decide, by decide, rfl, rfl⟩ rfl rfl (Nat.le_of_ble_eq_true rfl) dX6_areAlike_27 ?_
      refine r_icmp_ne (tgt := 37) hC dX6_areAlike_30 (by decide) (fun c5 => ?_) (fun c5 => ?_)
      · have hf := ite_f c5 hf
        refine r_iconst (v := 0) hC dX6_areAlike_37 (by decide) ?_
        refine r_istore_n (lv' := [(3, .int 0), (0, .ref (G.1 0)), (1, .int v1), (2, .int v2), (4, .int v4)]) hC dX6_areAlike_38 rfl (by decide) rfl ?_
        refine r_iinc (v := 1) (lv' := [(4, .int (v4 + 1)), (3, .int 0), (0, .ref (G.1 0)), (1, .int v1), (2, .int v2)]) hC dX6_areAlike_39 4 rfl (by decide) (by decide) rfl ?_
        refine r_goto (tgt := 5) hC dX6_areAlike_42 (by decide) ?_
        refine r_loc [2, 3, 4, 1, 0] rfl ?_
        exact hrec 0 (v4 + 1) o hf hk
      · have hf := ite_t c5 hf
        refine r_iconst (v := 1) hC dX6_areAlike_33 (by decide) ?_
        refine r_goto (tgt := 38) hC dX6_areAlike_34 (by decide) ?_
        refine r_istore_n (lv' := [(3, .int 1), (0, .ref (G.1 0)), (1, .int v1), (2, .int v2), (4, .int v4)]) hC dX6_areAlike_38 rfl (by decide) rfl ?_
        refine r_iinc (v := 1) (lv' := [(4, .int (v4 + 1)), (3, .int 1), (0, .ref (G.1 0)), (1, .int v1), (2, .int v2)]) hC dX6_areAlike_39 4 rfl (by decide) (by decide) rfl ?_
        refine r_goto (tgt := 5) hC dX6_areAlike_42 (by decide) ?_
        refine r_loc [2, 3, 4, 1, 0] rfl ?_
        exact hrec 1 (v4 + 1) o hf hk
set_option maxHeartbeats 4000000 in
set_option maxRecDepth 100000 in
theorem t_X6_areAlike_L5 {l : Launch} {G : zG} {X : zX} {K : Option Value → zS → Prop} (hC : zC G X cX6_areAlike 5 RX6 (some .boolean)) {N : Nat} {u : zS} {v1 : Int32} {v2 : Int32} : ∀ (n : Nat) (v3 : Int32) (v4 : Int32) (o : Int32), f_X6_areAlike_L5 N u v1 v2 n v3 v4 = some o → zW dscM l rm_X6_areAlike G X K u 45 [(3, .int o)] [] → zW dscM l rm_X6_areAlike G X K u 5 [(0, .ref (G.1 0)), (1, .int v1), (2, .int v2), (3, .int v3), (4, .int v4)] [] := by
  intro n
  induction n with
  | zero => intro v3 v4 o hf; cases hf
  | succ n ih => intro v3 v4 o hf hk; exact t_X6_areAlike_L5_B hC (rec := f_X6_areAlike_L5 N u v1 v2 n) ih v3 v4 o hf hk
set_option maxHeartbeats 4000000 in
set_option maxRecDepth 100000 in
theorem t_X6_areAlike {l : Launch} {G : zG} {X : zX} {K : Option Value → zS → Prop} (hC : zC G X cX6_areAlike 5 RX6 (some .boolean)) {N : Nat} {u : zS} {v1 : Int32} {v2 : Int32} (o : Int32) (hf : f_X6_areAlike N u v1 v2 = some o) (hk : K (some (.int o)) u) : zW dscM l rm_X6_areAlike G X K u 0 [(0, .ref (G.1 0)), (1, .int v1), (2, .int v2)] [] := by
  unfold f_X6_areAlike at hf
  refine r_iconst (v := 1) hC dX6_areAlike_0 (by decide) ?_
  refine r_istore_n (lv' := [(3, .int 1), (0, .ref (G.1 0)), (1, .int v1), (2, .int v2)]) hC dX6_areAlike_1 rfl (by decide) rfl ?_
  refine r_iconst (v := 0) hC dX6_areAlike_2 (by decide) ?_
  refine r_istore (lv' := [(4, .int 0), (3, .int 1), (0, .ref (G.1 0)), (1, .int v1), (2, .int v2)]) hC dX6_areAlike_3 (by decide) rfl ?_
  refine r_loc [2, 3, 4, 1, 0] rfl ?_
  obtain ⟨q6, eq6, hf⟩ := ob_some hf
  refine t_X6_areAlike_L5 hC N 1 0 q6 eq6 ?_
  refine r_iload_n hC dX6_areAlike_45 0 rfl ?_
  obtain ⟨g7, hf⟩ := og_zz hf
  have hf := Option.some.inj hf
  subst hf
  exact r_zret hC g7 dX6_areAlike_46 hk
set_option maxHeartbeats 4000000 in
set_option maxRecDepth 100000 in
theorem c_X6_areAlike {l : Launch} {G : zG} {N : Nat} {u : zS} {v1 : Int32} {v2 : Int32} {r : Int32} (hf : f_X6_areAlike N u v1 v2 = some r) : zM l dscM yX6_areAlike cX6_areAlike 5 (some .boolean) rm_X6_areAlike G [.ref (G.1 0), .int v1, .int v2] u (some (.int r)) u := zM.of (by decide) (Nat.le_of_ble_eq_true rfl) (fun X hC => t_X6_areAlike hC r hf ⟨rfl, rfl⟩)
set_option maxHeartbeats 4000000 in
set_option maxRecDepth 100000 in
theorem t_X6_sameAs_L2_B {l : Launch} {G : zG} {X : zX} {K : Option Value → zS → Prop} (hC : zC G X cX6_sameAs 3 RX6 (some .int)) {N : Nat} {u : zS} {v1 : Int32} {rec : Int32 → Option (Int32)} (hrec : ∀ (v2 : Int32) (o : Int32), rec v2 = some o → zW dscM l rm_X6_sameAs G X K u 17 [(2, .int o)] [] → zW dscM l rm_X6_sameAs G X K u 2 [(0, .ref (G.1 0)), (1, .int v1), (2, .int v2)] []) : ∀ (v2 : Int32) (o : Int32), f_X6_sameAs_L2_B N u v1 rec v2 = some o → zW dscM l rm_X6_sameAs G X K u 17 [(2, .int o)] [] → zW dscM l rm_X6_sameAs G X K u 2 [(0, .ref (G.1 0)), (1, .int v1), (2, .int v2)] [] := by
  intro v2 o hf hk
  unfold f_X6_sameAs_L2_B at hf
  refine r_aload_n hC dX6_sameAs_2 0 rfl ?_
  refine r_iload_n hC dX6_sameAs_3 1 rfl ?_
  refine r_iload_n hC dX6_sameAs_4 2 rfl ?_
  obtain ⟨r1, er1, hf⟩ := ob_some hf
  refine r_cvi (As := [.int v1, .int v2]) (rest := []) hC (c_X6_areAlike er1) yv_X6_areAlike ml_RX6_70 dM_0 ⟨by decide, by decide, rfl, rfl⟩ rfl rfl (Nat.le_of_ble_eq_true rfl) dX6_sameAs_5 ?_
  refine r_if_ne (tgt := 17) hC dX6_sameAs_8 (by decide) (fun c2 => ?_) (fun c2 => ?_)
  · have hf := ite_f c2 hf
    have hf := Option.some.inj hf
    subst hf
    refine r_loc [2] rfl ?_
    exact hk
  · have hf := ite_t c2 hf
    refine r_iinc (v := 1) (lv' := [(2, .int (v2 + 1)), (0, .ref (G.1 0)), (1, .int v1)]) hC dX6_sameAs_11 2 rfl (by decide) (by decide) rfl ?_
    refine r_goto (tgt := 2) hC dX6_sameAs_14 (by decide) ?_
    refine r_loc [1, 2, 0] rfl ?_
    exact hrec (v2 + 1) o hf hk
set_option maxHeartbeats 4000000 in
set_option maxRecDepth 100000 in
theorem t_X6_sameAs_L2 {l : Launch} {G : zG} {X : zX} {K : Option Value → zS → Prop} (hC : zC G X cX6_sameAs 3 RX6 (some .int)) {N : Nat} {u : zS} {v1 : Int32} : ∀ (n : Nat) (v2 : Int32) (o : Int32), f_X6_sameAs_L2 N u v1 n v2 = some o → zW dscM l rm_X6_sameAs G X K u 17 [(2, .int o)] [] → zW dscM l rm_X6_sameAs G X K u 2 [(0, .ref (G.1 0)), (1, .int v1), (2, .int v2)] [] := by
  intro n
  induction n with
  | zero => intro v2 o hf; cases hf
  | succ n ih => intro v2 o hf hk; exact t_X6_sameAs_L2_B hC (rec := f_X6_sameAs_L2 N u v1 n) ih v2 o hf hk
set_option maxHeartbeats 4000000 in
set_option maxRecDepth 100000 in
theorem t_X6_sameAs {l : Launch} {G : zG} {X : zX} {K : Option Value → zS → Prop} (hC : zC G X cX6_sameAs 3 RX6 (some .int)) {N : Nat} {u : zS} {v1 : Int32} (o : Int32) (hf : f_X6_sameAs N u v1 = some o) (hk : K (some (.int o)) u) : zW dscM l rm_X6_sameAs G X K u 0 [(0, .ref (G.1 0)), (1, .int v1)] [] := by
  unfold f_X6_sameAs at hf
  refine r_iconst (v := 0) hC dX6_sameAs_0 (by decide) ?_
  refine r_istore_n (lv' := [(2, .int 0), (0, .ref (G.1 0)), (1, .int v1)]) hC dX6_sameAs_1 rfl (by decide) rfl ?_
  refine r_loc [1, 2, 0] rfl ?_
  obtain ⟨q3, eq3, hf⟩ := ob_some hf
  refine t_X6_sameAs_L2 hC N 0 q3 eq3 ?_
  refine r_iload_n hC dX6_sameAs_17 0 rfl ?_
  have hf := Option.some.inj hf
  subst hf
  exact r_iret hC dX6_sameAs_18 hk
set_option maxHeartbeats 4000000 in
set_option maxRecDepth 100000 in
theorem c_X6_sameAs {l : Launch} {G : zG} {N : Nat} {u : zS} {v1 : Int32} {r : Int32} (hf : f_X6_sameAs N u v1 = some r) : zM l dscM yX6_sameAs cX6_sameAs 3 (some .int) rm_X6_sameAs G [.ref (G.1 0), .int v1] u (some (.int r)) u := zM.of (by decide) (Nat.le_of_ble_eq_true rfl) (fun X hC => t_X6_sameAs hC r hf ⟨rfl, rfl⟩)
set_option maxHeartbeats 4000000 in
set_option maxRecDepth 100000 in
theorem t_X6_taken_L4_B {l : Launch} {G : zG} {X : zX} {K : Option Value → zS → Prop} (hC : zC G X cX6_taken 3 RX6 (some .int)) {N : Nat} {u : zS} {rec : Int32 → Int32 → Option (Int32)} (hrec : ∀ (v1 : Int32) (v2 : Int32) (o : Int32), rec v1 v2 = some o → zW dscM l rm_X6_taken G X K u 50 [(1, .int o)] [] → zW dscM l rm_X6_taken G X K u 4 [(0, .ref (G.1 0)), (1, .int v1), (2, .int v2)] []) : ∀ (v1 : Int32) (v2 : Int32) (o : Int32), f_X6_taken_L4_B N u rec v1 v2 = some o → zW dscM l rm_X6_taken G X K u 50 [(1, .int o)] [] → zW dscM l rm_X6_taken G X K u 4 [(0, .ref (G.1 0)), (1, .int v1), (2, .int v2)] [] := by
  intro v1 v2 o hf hk
  unfold f_X6_taken_L4_B at hf
  refine r_iload_n hC dX6_taken_4 2 rfl ?_
  refine r_aload_n hC dX6_taken_5 0 rfl ?_
  refine r_getr hC fd_RX6_7 dM_0 rfl dX6_taken_6 ?_
  refine r_iconst (v := 0) hC dX6_taken_9 (by decide) ?_
  refine r_ialdK (j := 0) hC dM_1 (inK (by decide)) dX6_taken_10 ?_
  refine r_icmp_ge (tgt := 50) hC dX6_taken_11 (by decide) (fun c1 => ?_) (fun c1 => ?_)
  · have hf := ite_t c1 hf
    have hf := Option.some.inj hf
    subst hf
    refine r_loc [1] rfl ?_
    exact hk
  · have hf := ite_f c1 hf
    refine r_iload_n hC dX6_taken_14 1 rfl ?_
    refine r_aload_n hC dX6_taken_15 0 rfl ?_
    refine r_getr hC fd_RX6_7 dM_0 rfl dX6_taken_16 ?_
    refine r_iconst (v := 5) hC dX6_taken_19 (by decide) ?_
    refine r_iload_n hC dX6_taken_20 2 rfl ?_
    refine r_iadd hC dX6_taken_21 ?_
    obtain ⟨g2, hf⟩ := og_in hf
    refine r_iald hC dM_1 g2 dX6_taken_22 ?_
    refine r_bipush (v := (-4)) hC dX6_taken_23 (by decide) ?_
    refine r_icmp_ne (tgt := 32) hC dX6_taken_25 (by decide) (fun c3 => ?_) (fun c3 => ?_)
    · have hf := ite_f c3 hf
      refine r_iconst (v := 1) hC dX6_taken_32 (by decide) ?_
      refine r_aload_n hC dX6_taken_33 0 rfl ?_
      refine r_getr hC fd_RX6_7 dM_0 rfl dX6_taken_34 ?_
      refine r_iconst (v := 5) hC dX6_taken_37 (by decide) ?_
      refine r_iload_n hC dX6_taken_38 2 rfl ?_
      refine r_iadd hC dX6_taken_39 ?_
      obtain ⟨g4, hf⟩ := og_in hf
      refine r_iald hC dM_1 g4 dX6_taken_40 ?_
      refine r_ishl (x := 1) (y := (u.1 1 (Int32.toNatClampNeg (5 + v2)))) hC dX6_taken_41 ?_
      refine r_ior hC dX6_taken_42 ?_
      refine r_topi (fun w5 ew5 => ?_)
      have hf := olet_at ew5 hf
      refine r_istore_n (lv' := [(1, .int w5), (0, .ref (G.1 0)), (2, .int v2)]) hC dX6_taken_43 rfl (by decide) rfl ?_
      refine r_iinc (v := 1) (lv' := [(2, .int (v2 + 1)), (1, .int w5), (0, .ref (G.1 0))]) hC dX6_taken_44 2 rfl (by decide) (by decide) rfl ?_
      refine r_goto (tgt := 4) hC dX6_taken_47 (by decide) ?_
      refine r_loc [2, 1, 0] rfl ?_
      exact hrec w5 (v2 + 1) o hf hk
    · have hf := ite_t c3 hf
      refine r_iconst (v := 0) hC dX6_taken_28 (by decide) ?_
      refine r_goto (tgt := 42) hC dX6_taken_29 (by decide) ?_
      refine r_ior hC dX6_taken_42 ?_
      refine r_istore_n (lv' := [(1, .int (v1 ||| 0)), (0, .ref (G.1 0)), (2, .int v2)]) hC dX6_taken_43 rfl (by decide) rfl ?_
      refine r_iinc (v := 1) (lv' := [(2, .int (v2 + 1)), (1, .int (v1 ||| 0)), (0, .ref (G.1 0))]) hC dX6_taken_44 2 rfl (by decide) (by decide) rfl ?_
      refine r_goto (tgt := 4) hC dX6_taken_47 (by decide) ?_
      refine r_loc [2, 1, 0] rfl ?_
      exact hrec (v1 ||| 0) (v2 + 1) o hf hk
set_option maxHeartbeats 4000000 in
set_option maxRecDepth 100000 in
theorem t_X6_taken_L4 {l : Launch} {G : zG} {X : zX} {K : Option Value → zS → Prop} (hC : zC G X cX6_taken 3 RX6 (some .int)) {N : Nat} {u : zS} : ∀ (n : Nat) (v1 : Int32) (v2 : Int32) (o : Int32), f_X6_taken_L4 N u n v1 v2 = some o → zW dscM l rm_X6_taken G X K u 50 [(1, .int o)] [] → zW dscM l rm_X6_taken G X K u 4 [(0, .ref (G.1 0)), (1, .int v1), (2, .int v2)] [] := by
  intro n
  induction n with
  | zero => intro v1 v2 o hf; cases hf
  | succ n ih => intro v1 v2 o hf hk; exact t_X6_taken_L4_B hC (rec := f_X6_taken_L4 N u n) ih v1 v2 o hf hk
set_option maxHeartbeats 4000000 in
set_option maxRecDepth 100000 in
theorem t_X6_taken {l : Launch} {G : zG} {X : zX} {K : Option Value → zS → Prop} (hC : zC G X cX6_taken 3 RX6 (some .int)) {N : Nat} {u : zS} (o : Int32) (hf : f_X6_taken N u = some o) (hk : K (some (.int o)) u) : zW dscM l rm_X6_taken G X K u 0 [(0, .ref (G.1 0))] [] := by
  unfold f_X6_taken at hf
  refine r_iconst (v := 0) hC dX6_taken_0 (by decide) ?_
  refine r_istore_n (lv' := [(1, .int 0), (0, .ref (G.1 0))]) hC dX6_taken_1 rfl (by decide) rfl ?_
  refine r_iconst (v := 0) hC dX6_taken_2 (by decide) ?_
  refine r_istore_n (lv' := [(2, .int 0), (1, .int 0), (0, .ref (G.1 0))]) hC dX6_taken_3 rfl (by decide) rfl ?_
  refine r_loc [2, 1, 0] rfl ?_
  obtain ⟨q6, eq6, hf⟩ := ob_some hf
  refine t_X6_taken_L4 hC N 0 0 q6 eq6 ?_
  refine r_iload_n hC dX6_taken_50 0 rfl ?_
  have hf := Option.some.inj hf
  subst hf
  exact r_iret hC dX6_taken_51 hk
set_option maxHeartbeats 4000000 in
set_option maxRecDepth 100000 in
theorem c_X6_taken {l : Launch} {G : zG} {N : Nat} {u : zS} {r : Int32} (hf : f_X6_taken N u = some r) : zM l dscM yX6_taken cX6_taken 3 (some .int) rm_X6_taken G [.ref (G.1 0)] u (some (.int r)) u := zM.of (by decide) (Nat.le_of_ble_eq_true rfl) (fun X hC => t_X6_taken hC r hf ⟨rfl, rfl⟩)
set_option maxHeartbeats 4000000 in
set_option maxRecDepth 100000 in
theorem t_X6_angel {l : Launch} {G : zG} {X : zX} {K : Option Value → zS → Prop} (hC : zC G X cX6_angel 2 RX6 (some .int)) {N : Nat} {u : zS} {v1 : Int32} (o : Int32 × zS) (hf : f_X6_angel N u v1 = some o) (hk : K (some (.int o.1)) o.2) : zW dscM l rm_X6_angel G X K u 0 [(0, .ref (G.1 0)), (1, .int v1)] [] := by
  unfold f_X6_angel at hf
  refine r_iload_n hC dX6_angel_0 1 rfl ?_
  refine r_csi (As := [.int v1]) (rest := []) hC c_X6_isPlace ys_X6_isPlace ml_RX6_74 ⟨by decide, by decide, rfl, rfl⟩ rfl rfl (Nat.le_of_ble_eq_true rfl) dX6_angel_1 ?_
  refine r_if_ne (tgt := 9) hC dX6_angel_4 (by decide) (fun c1 => ?_) (fun c1 => ?_)
  · have hf := ite_f c1 hf
    refine r_aload_n hC dX6_angel_9 0 rfl ?_
    refine r_getr hC fd_RX6_7 dM_0 rfl dX6_angel_10 ?_
    refine r_iconst (v := 0) hC dX6_angel_13 (by decide) ?_
    refine r_ialdK (j := 0) hC dM_1 (inK (by decide)) dX6_angel_14 ?_
    refine r_bipush (v := 8) hC dX6_angel_15 (by decide) ?_
    refine r_icmp_ne (tgt := 23) hC dX6_angel_17 (by decide) (fun c2 => ?_) (fun c2 => ?_)
    · have hf := ite_f c2 hf
      refine r_aload_n hC dX6_angel_23 0 rfl ?_
      obtain ⟨r3, er3, hf⟩ := ob_some hf
      refine r_cvi (As := []) (rest := []) hC (c_X6_taken er3) yv_X6_taken ml_RX6_78 dM_0 ⟨by decide, by decide, rfl, rfl⟩ rfl rfl (Nat.le_of_ble_eq_true rfl) dX6_angel_24 ?_
      refine r_iload_n hC dX6_angel_27 1 rfl ?_
      refine r_csi (As := [.int r3, .int v1]) (rest := []) hC c_X6_has ys_X6_has ml_RX6_82 ⟨by decide, by decide, rfl, rfl⟩ rfl rfl (Nat.le_of_ble_eq_true rfl) dX6_angel_28 ?_
      refine r_if_eq (tgt := 37) hC dX6_angel_31 (by decide) (fun c4 => ?_) (fun c4 => ?_)
      · have hf := ite_t c4 hf
        refine r_aload_n hC dX6_angel_37 0 rfl ?_
        refine r_getr hC fd_RX6_7 dM_0 rfl dX6_angel_38 ?_
        refine r_iconst (v := 5) hC dX6_angel_41 (by decide) ?_
        refine r_aload_n hC dX6_angel_42 0 rfl ?_
        refine r_getr hC fd_RX6_7 dM_0 rfl dX6_angel_43 ?_
        refine r_iconst (v := 0) hC dX6_angel_46 (by decide) ?_
        refine r_ialdK (j := 0) hC dM_1 (inK (by decide)) dX6_angel_47 ?_
        refine r_iadd hC dX6_angel_48 ?_
        refine r_iload_n hC dX6_angel_49 1 rfl ?_
        obtain ⟨g5, hf⟩ := og_in hf
        refine r_iast hC dM_1 g5 dX6_angel_50 ?_
        refine r_tops (fun u6 eu6 => ?_)
        have hf := olet_at eu6 hf
        refine r_aload_n hC dX6_angel_51 0 rfl ?_
        refine r_getr hC fd_RX6_7 dM_0 rfl dX6_angel_52 ?_
        refine r_iconst (v := 0) hC dX6_angel_55 (by decide) ?_
        refine r_dup2 hC dX6_angel_56 rfl rfl ?_
        refine r_ialdK (j := 0) hC dM_1 (inK (by decide)) dX6_angel_57 ?_
        refine r_iconst (v := 1) hC dX6_angel_58 (by decide) ?_
        refine r_iadd hC dX6_angel_59 ?_
        refine r_iastK (j := 0) hC dM_1 (inK (by decide)) dX6_angel_60 ?_
        refine r_tops (fun u7 eu7 => ?_)
        have hf := olet_at eu7 hf
        refine r_aload_n hC dX6_angel_61 0 rfl ?_
        refine r_getr hC fd_RX6_7 dM_0 rfl dX6_angel_62 ?_
        refine r_bipush (v := 39) hC dX6_angel_65 (by decide) ?_
        refine r_iconst (v := 0) hC dX6_angel_67 (by decide) ?_
        refine r_iastK (j := 39) hC dM_1 (inK (by decide)) dX6_angel_68 ?_
        refine r_tops (fun u8 eu8 => ?_)
        have hf := olet_at eu8 hf
        refine r_aload_n hC dX6_angel_69 0 rfl ?_
        refine r_getr hC fd_RX6_7 dM_0 rfl dX6_angel_70 ?_
        refine r_iconst (v := 0) hC dX6_angel_73 (by decide) ?_
        refine r_ialdK (j := 0) hC dM_1 (inK (by decide)) dX6_angel_74 ?_
        refine r_iconst (v := 1) hC dX6_angel_75 (by decide) ?_
        refine r_isub hC dX6_angel_76 ?_
        have hf := Option.some.inj hf
        subst hf
        exact r_iret hC dX6_angel_77 hk
      · have hf := ite_f c4 hf
        refine r_bipush (v := (-2)) hC dX6_angel_34 (by decide) ?_
        have hf := Option.some.inj hf
        subst hf
        exact r_iret hC dX6_angel_36 hk
    · have hf := ite_t c2 hf
      refine r_bipush (v := (-3)) hC dX6_angel_20 (by decide) ?_
      have hf := Option.some.inj hf
      subst hf
      exact r_iret hC dX6_angel_22 hk
  · have hf := ite_t c1 hf
    refine r_iconst (v := (-1)) hC dX6_angel_7 (by decide) ?_
    have hf := Option.some.inj hf
    subst hf
    exact r_iret hC dX6_angel_8 hk
set_option maxHeartbeats 4000000 in
set_option maxRecDepth 100000 in
theorem c_X6_angel {l : Launch} {G : zG} {N : Nat} {u : zS} {v1 : Int32} {r : Int32 × zS} (hf : f_X6_angel N u v1 = some r) : zM l dscM yX6_angel cX6_angel 2 (some .int) rm_X6_angel G [.ref (G.1 0), .int v1] u (some (.int r.1)) r.2 := zM.of (by decide) (Nat.le_of_ble_eq_true rfl) (fun X hC => t_X6_angel hC r hf ⟨rfl, rfl⟩)
set_option maxHeartbeats 4000000 in
set_option maxRecDepth 100000 in
theorem t_X6_figure {l : Launch} {G : zG} {X : zX} {K : Option Value → zS → Prop} (hC : zC G X cX6_figure 3 RX6 (some .int)) {u : zS} {v1 : Int32} {v2 : Int32} (o : Int32 × zS) (hf : f_X6_figure u v1 v2 = some o) (hk : K (some (.int o.1)) o.2) : zW dscM l rm_X6_figure G X K u 0 [(0, .ref (G.1 0)), (1, .int v1), (2, .int v2)] [] := by
  unfold f_X6_figure at hf
  refine r_iload_n hC dX6_figure_0 1 rfl ?_
  refine r_i2l hC dX6_figure_1 ?_
  refine r_lconst (v := 0) hC dX6_figure_2 (by decide) ?_
  refine r_ldc2 hC cn_RX6_85 dX6_figure_3 ?_
  refine r_csi (As := [.long (Int32.toInt64 v1), .long 0, .long 4]) (rest := []) hC c_X6_in ys_X6_in ml_RX6_52 ⟨by decide, by decide, rfl, rfl⟩ rfl rfl (Nat.le_of_ble_eq_true rfl) dX6_figure_6 ?_
  refine r_if_eq (tgt := 24) hC dX6_figure_9 (by decide) (fun c1 => ?_) (fun c1 => ?_)
  · have hf := ite_t c1 hf
    refine r_iconst (v := (-1)) hC dX6_figure_24 (by decide) ?_
    have hf := Option.some.inj hf
    subst hf
    exact r_iret hC dX6_figure_25 hk
  · have hf := ite_f c1 hf
    refine r_iload_n hC dX6_figure_12 2 rfl ?_
    refine r_i2l hC dX6_figure_13 ?_
    refine r_lconst (v := 0) hC dX6_figure_14 (by decide) ?_
    refine r_ldc2 hC cn_RX6_50 dX6_figure_15 ?_
    refine r_csi (As := [.long (Int32.toInt64 v2), .long 0, .long 7]) (rest := []) hC c_X6_in ys_X6_in ml_RX6_52 ⟨by decide, by decide, rfl, rfl⟩ rfl rfl (Nat.le_of_ble_eq_true rfl) dX6_figure_18 ?_
    refine r_if_ne (tgt := 26) hC dX6_figure_21 (by decide) (fun c2 => ?_) (fun c2 => ?_)
    · have hf := ite_f c2 hf
      refine r_aload_n hC dX6_figure_26 0 rfl ?_
      refine r_getr hC fd_RX6_7 dM_0 rfl dX6_figure_27 ?_
      refine r_iconst (v := 1) hC dX6_figure_30 (by decide) ?_
      refine r_ialdK (j := 1) hC dM_1 (inK (by decide)) dX6_figure_31 ?_
      refine r_iconst (v := 5) hC dX6_figure_32 (by decide) ?_
      refine r_icmp_ne (tgt := 39) hC dX6_figure_33 (by decide) (fun c3 => ?_) (fun c3 => ?_)
      · have hf := ite_f c3 hf
        refine r_aload_n hC dX6_figure_39 0 rfl ?_
        refine r_getr hC fd_RX6_7 dM_0 rfl dX6_figure_40 ?_
        refine r_bipush (v := 13) hC dX6_figure_43 (by decide) ?_
        refine r_aload_n hC dX6_figure_45 0 rfl ?_
        refine r_getr hC fd_RX6_7 dM_0 rfl dX6_figure_46 ?_
        refine r_iconst (v := 1) hC dX6_figure_49 (by decide) ?_
        refine r_ialdK (j := 1) hC dM_1 (inK (by decide)) dX6_figure_50 ?_
        refine r_iadd hC dX6_figure_51 ?_
        refine r_iload_n hC dX6_figure_52 1 rfl ?_
        obtain ⟨g4, hf⟩ := og_in hf
        refine r_iast hC dM_1 g4 dX6_figure_53 ?_
        refine r_tops (fun u5 eu5 => ?_)
        have hf := olet_at eu5 hf
        refine r_aload_n hC dX6_figure_54 0 rfl ?_
        refine r_getr hC fd_RX6_7 dM_0 rfl dX6_figure_55 ?_
        refine r_bipush (v := 18) hC dX6_figure_58 (by decide) ?_
        refine r_aload_n hC dX6_figure_60 0 rfl ?_
        refine r_getr hC fd_RX6_7 dM_0 rfl dX6_figure_61 ?_
        refine r_iconst (v := 1) hC dX6_figure_64 (by decide) ?_
        refine r_ialdK (j := 1) hC dM_1 (inK (by decide)) dX6_figure_65 ?_
        refine r_iadd hC dX6_figure_66 ?_
        refine r_iload_n hC dX6_figure_67 2 rfl ?_
        obtain ⟨g6, hf⟩ := og_in hf
        refine r_iast hC dM_1 g6 dX6_figure_68 ?_
        refine r_tops (fun u7 eu7 => ?_)
        have hf := olet_at eu7 hf
        refine r_aload_n hC dX6_figure_69 0 rfl ?_
        refine r_getr hC fd_RX6_7 dM_0 rfl dX6_figure_70 ?_
        refine r_iconst (v := 1) hC dX6_figure_73 (by decide) ?_
        refine r_dup2 hC dX6_figure_74 rfl rfl ?_
        refine r_ialdK (j := 1) hC dM_1 (inK (by decide)) dX6_figure_75 ?_
        refine r_iconst (v := 1) hC dX6_figure_76 (by decide) ?_
        refine r_iadd hC dX6_figure_77 ?_
        refine r_iastK (j := 1) hC dM_1 (inK (by decide)) dX6_figure_78 ?_
        refine r_tops (fun u8 eu8 => ?_)
        have hf := olet_at eu8 hf
        refine r_aload_n hC dX6_figure_79 0 rfl ?_
        refine r_getr hC fd_RX6_7 dM_0 rfl dX6_figure_80 ?_
        refine r_bipush (v := 39) hC dX6_figure_83 (by decide) ?_
        refine r_iconst (v := 0) hC dX6_figure_85 (by decide) ?_
        refine r_iastK (j := 39) hC dM_1 (inK (by decide)) dX6_figure_86 ?_
        refine r_tops (fun u9 eu9 => ?_)
        have hf := olet_at eu9 hf
        refine r_aload_n hC dX6_figure_87 0 rfl ?_
        refine r_getr hC fd_RX6_7 dM_0 rfl dX6_figure_88 ?_
        refine r_iconst (v := 1) hC dX6_figure_91 (by decide) ?_
        refine r_ialdK (j := 1) hC dM_1 (inK (by decide)) dX6_figure_92 ?_
        refine r_iconst (v := 1) hC dX6_figure_93 (by decide) ?_
        refine r_isub hC dX6_figure_94 ?_
        have hf := Option.some.inj hf
        subst hf
        exact r_iret hC dX6_figure_95 hk
      · have hf := ite_t c3 hf
        refine r_bipush (v := (-3)) hC dX6_figure_36 (by decide) ?_
        have hf := Option.some.inj hf
        subst hf
        exact r_iret hC dX6_figure_38 hk
    · have hf := ite_t c2 hf
      refine r_iconst (v := (-1)) hC dX6_figure_24 (by decide) ?_
      have hf := Option.some.inj hf
      subst hf
      exact r_iret hC dX6_figure_25 hk
set_option maxHeartbeats 4000000 in
set_option maxRecDepth 100000 in
theorem c_X6_figure {l : Launch} {G : zG} {u : zS} {v1 : Int32} {v2 : Int32} {r : Int32 × zS} (hf : f_X6_figure u v1 v2 = some r) : zM l dscM yX6_figure cX6_figure 3 (some .int) rm_X6_figure G [.ref (G.1 0), .int v1, .int v2] u (some (.int r.1)) r.2 := zM.of (by decide) (Nat.le_of_ble_eq_true rfl) (fun X hC => t_X6_figure hC r hf ⟨rfl, rfl⟩)
set_option maxHeartbeats 4000000 in
set_option maxRecDepth 100000 in
theorem t_X6_tune {l : Launch} {G : zG} {X : zX} {K : Option Value → zS → Prop} (hC : zC G X cX6_tune 2 RX6 (some .int)) {u : zS} {v1 : Int32} (o : Int32 × zS) (hf : f_X6_tune u v1 = some o) (hk : K (some (.int o.1)) o.2) : zW dscM l rm_X6_tune G X K u 0 [(0, .ref (G.1 0)), (1, .int v1)] [] := by
  unfold f_X6_tune at hf
  refine r_aload_n hC dX6_tune_0 0 rfl ?_
  refine r_iload_n hC dX6_tune_1 1 rfl ?_
  refine r_cvi (As := [.int v1]) (rest := []) hC c_X6_isFigure yv_X6_isFigure ml_RX6_87 dM_0 ⟨by decide, by decide, rfl, rfl⟩ rfl rfl (Nat.le_of_ble_eq_true rfl) dX6_tune_2 ?_
  refine r_if_ne (tgt := 10) hC dX6_tune_5 (by decide) (fun c1 => ?_) (fun c1 => ?_)
  · have hf := ite_f c1 hf
    refine r_aload_n hC dX6_tune_10 0 rfl ?_
    refine r_getr hC fd_RX6_7 dM_0 rfl dX6_tune_11 ?_
    refine r_iconst (v := 2) hC dX6_tune_14 (by decide) ?_
    refine r_ialdK (j := 2) hC dM_1 (inK (by decide)) dX6_tune_15 ?_
    refine r_bipush (v := 16) hC dX6_tune_16 (by decide) ?_
    refine r_icmp_ne (tgt := 24) hC dX6_tune_18 (by decide) (fun c2 => ?_) (fun c2 => ?_)
    · have hf := ite_f c2 hf
      refine r_aload_n hC dX6_tune_24 0 rfl ?_
      refine r_getr hC fd_RX6_7 dM_0 rfl dX6_tune_25 ?_
      refine r_bipush (v := 23) hC dX6_tune_28 (by decide) ?_
      refine r_aload_n hC dX6_tune_30 0 rfl ?_
      refine r_getr hC fd_RX6_7 dM_0 rfl dX6_tune_31 ?_
      refine r_iconst (v := 2) hC dX6_tune_34 (by decide) ?_
      refine r_ialdK (j := 2) hC dM_1 (inK (by decide)) dX6_tune_35 ?_
      refine r_iadd hC dX6_tune_36 ?_
      refine r_iload_n hC dX6_tune_37 1 rfl ?_
      obtain ⟨g3, hf⟩ := og_in hf
      refine r_iast hC dM_1 g3 dX6_tune_38 ?_
      refine r_tops (fun u4 eu4 => ?_)
      have hf := olet_at eu4 hf
      refine r_aload_n hC dX6_tune_39 0 rfl ?_
      refine r_getr hC fd_RX6_7 dM_0 rfl dX6_tune_40 ?_
      refine r_iconst (v := 2) hC dX6_tune_43 (by decide) ?_
      refine r_dup2 hC dX6_tune_44 rfl rfl ?_
      refine r_ialdK (j := 2) hC dM_1 (inK (by decide)) dX6_tune_45 ?_
      refine r_iconst (v := 1) hC dX6_tune_46 (by decide) ?_
      refine r_iadd hC dX6_tune_47 ?_
      refine r_iastK (j := 2) hC dM_1 (inK (by decide)) dX6_tune_48 ?_
      refine r_tops (fun u5 eu5 => ?_)
      have hf := olet_at eu5 hf
      refine r_aload_n hC dX6_tune_49 0 rfl ?_
      refine r_getr hC fd_RX6_7 dM_0 rfl dX6_tune_50 ?_
      refine r_bipush (v := 39) hC dX6_tune_53 (by decide) ?_
      refine r_iconst (v := 0) hC dX6_tune_55 (by decide) ?_
      refine r_iastK (j := 39) hC dM_1 (inK (by decide)) dX6_tune_56 ?_
      refine r_tops (fun u6 eu6 => ?_)
      have hf := olet_at eu6 hf
      refine r_aload_n hC dX6_tune_57 0 rfl ?_
      refine r_getr hC fd_RX6_7 dM_0 rfl dX6_tune_58 ?_
      refine r_iconst (v := 2) hC dX6_tune_61 (by decide) ?_
      refine r_ialdK (j := 2) hC dM_1 (inK (by decide)) dX6_tune_62 ?_
      have hf := Option.some.inj hf
      subst hf
      exact r_iret hC dX6_tune_63 hk
    · have hf := ite_t c2 hf
      refine r_bipush (v := (-3)) hC dX6_tune_21 (by decide) ?_
      have hf := Option.some.inj hf
      subst hf
      exact r_iret hC dX6_tune_23 hk
  · have hf := ite_t c1 hf
    refine r_iconst (v := (-1)) hC dX6_tune_8 (by decide) ?_
    have hf := Option.some.inj hf
    subst hf
    exact r_iret hC dX6_tune_9 hk
set_option maxHeartbeats 4000000 in
set_option maxRecDepth 100000 in
theorem c_X6_tune {l : Launch} {G : zG} {u : zS} {v1 : Int32} {r : Int32 × zS} (hf : f_X6_tune u v1 = some r) : zM l dscM yX6_tune cX6_tune 2 (some .int) rm_X6_tune G [.ref (G.1 0), .int v1] u (some (.int r.1)) r.2 := zM.of (by decide) (Nat.le_of_ble_eq_true rfl) (fun X hC => t_X6_tune hC r hf ⟨rfl, rfl⟩)
set_option maxHeartbeats 4000000 in
set_option maxRecDepth 100000 in
theorem t_X6_hush {l : Launch} {G : zG} {X : zX} {K : Option Value → zS → Prop} (hC : zC G X cX6_hush 2 RX6 (some .int)) {u : zS} (o : Int32 × zS) (hf : f_X6_hush u = o) (hk : K (some (.int o.1)) o.2) : zW dscM l rm_X6_hush G X K u 0 [(0, .ref (G.1 0))] [] := by
  unfold f_X6_hush at hf
  refine r_aload_n hC dX6_hush_0 0 rfl ?_
  refine r_getr hC fd_RX6_7 dM_0 rfl dX6_hush_1 ?_
  refine r_iconst (v := 2) hC dX6_hush_4 (by decide) ?_
  refine r_ialdK (j := 2) hC dM_1 (inK (by decide)) dX6_hush_5 ?_
  refine r_istore_n (lv' := [(1, .int (u.1 1 2)), (0, .ref (G.1 0))]) hC dX6_hush_6 rfl (by decide) rfl ?_
  refine r_aload_n hC dX6_hush_7 1 rfl ?_
  refine r_getr hC fd_RX6_7 dM_0 rfl dX6_hush_8 ?_
  refine r_iconst (v := 2) hC dX6_hush_11 (by decide) ?_
  refine r_iconst (v := 0) hC dX6_hush_12 (by decide) ?_
  refine r_iastK (j := 2) hC dM_1 (inK (by decide)) dX6_hush_13 ?_
  refine r_tops (fun u1 eu1 => ?_)
  have hf := olet_at eu1 hf
  refine r_aload_n hC dX6_hush_14 1 rfl ?_
  refine r_getr hC fd_RX6_7 dM_0 rfl dX6_hush_15 ?_
  refine r_bipush (v := 39) hC dX6_hush_18 (by decide) ?_
  refine r_iconst (v := 0) hC dX6_hush_20 (by decide) ?_
  refine r_iastK (j := 39) hC dM_1 (inK (by decide)) dX6_hush_21 ?_
  refine r_tops (fun u2 eu2 => ?_)
  have hf := olet_at eu2 hf
  refine r_iload_n hC dX6_hush_22 0 rfl ?_
  subst hf
  exact r_iret hC dX6_hush_23 hk
set_option maxHeartbeats 4000000 in
set_option maxRecDepth 100000 in
theorem c_X6_hush {l : Launch} {G : zG} {u : zS} {r : Int32 × zS} (hf : f_X6_hush u = r) : zM l dscM yX6_hush cX6_hush 2 (some .int) rm_X6_hush G [.ref (G.1 0)] u (some (.int r.1)) r.2 := zM.of (by decide) (Nat.le_of_ble_eq_true rfl) (fun X hC => t_X6_hush hC r hf ⟨rfl, rfl⟩)
set_option maxHeartbeats 4000000 in
set_option maxRecDepth 100000 in
theorem t_X6_of {l : Launch} {G : zG} {X : zX} {K : Option Value → zS → Prop} (hC : zC G X cX6_of 3 RX6 (some .int)) {N : Nat} {u : zS} {v1 : Int32} {v2 : Int32} (o : Int32 × zS) (hf : f_X6_of N u v1 v2 = some o) (hk : K (some (.int o.1)) o.2) : zW dscM l rm_X6_of G X K u 0 [(0, .ref (G.1 0)), (1, .int v1), (2, .int v2)] [] := by
  unfold f_X6_of at hf
  refine r_aload_n hC dX6_of_0 0 rfl ?_
  refine r_iload_n hC dX6_of_1 1 rfl ?_
  refine r_cvi (As := [.int v1]) (rest := []) hC c_X6_isFigure yv_X6_isFigure ml_RX6_87 dM_0 ⟨by decide, by decide, rfl, rfl⟩ rfl rfl (Nat.le_of_ble_eq_true rfl) dX6_of_2 ?_
  refine r_if_ne (tgt := 10) hC dX6_of_5 (by decide) (fun c1 => ?_) (fun c1 => ?_)
  · have hf := ite_f c1 hf
    refine r_iload_n hC dX6_of_10 2 rfl ?_
    by_cases s2 : v2 = 0
    · have hf := ite_t s2 hf
      refine r_tsIn (q := 0) (off := 33) (tgt := 44) hC dX6_of_11 s2 (by decide) (by decide) ?_
      refine r_aload_n hC dX6_of_44 0 rfl ?_
      refine r_getr hC fd_RX6_7 dM_0 rfl dX6_of_45 ?_
      refine r_bipush (v := 13) hC dX6_of_48 (by decide) ?_
      refine r_iload_n hC dX6_of_50 1 rfl ?_
      refine r_iadd hC dX6_of_51 ?_
      obtain ⟨g3, hf⟩ := og_in hf
      refine r_iald hC dM_1 g3 dX6_of_52 ?_
      have hf := Option.some.inj hf
      subst hf
      exact r_iret hC dX6_of_53 hk
    · have hf := ite_f s2 hf
      by_cases s4 : v2 = 1
      · have hf := ite_t s4 hf
        refine r_tsIn (q := 1) (off := 43) (tgt := 54) hC dX6_of_11 s4 (by decide) (by decide) ?_
        refine r_aload_n hC dX6_of_54 0 rfl ?_
        refine r_getr hC fd_RX6_7 dM_0 rfl dX6_of_55 ?_
        refine r_bipush (v := 18) hC dX6_of_58 (by decide) ?_
        refine r_iload_n hC dX6_of_60 1 rfl ?_
        refine r_iadd hC dX6_of_61 ?_
        obtain ⟨g5, hf⟩ := og_in hf
        refine r_iald hC dM_1 g5 dX6_of_62 ?_
        have hf := Option.some.inj hf
        subst hf
        exact r_iret hC dX6_of_63 hk
      · have hf := ite_f s4 hf
        by_cases s6 : v2 = 2
        · have hf := ite_t s6 hf
          refine r_tsIn (q := 2) (off := 53) (tgt := 64) hC dX6_of_11 s6 (by decide) (by decide) ?_
          refine r_aload_n hC dX6_of_64 0 rfl ?_
          refine r_iload_n hC dX6_of_65 1 rfl ?_
          obtain ⟨r7, er7, hf⟩ := ob_some hf
          refine r_cvi (As := [.int v1]) (rest := []) hC (c_X6_orderOf er7) yv_X6_orderOf ml_RX6_90 dM_0 ⟨by decide, by decide, rfl, rfl⟩ rfl rfl (Nat.le_of_ble_eq_true rfl) dX6_of_66 ?_
          have hf := Option.some.inj hf
          subst hf
          exact r_iret hC dX6_of_69 hk
        · have hf := ite_f s6 hf
          by_cases s8 : v2 = 3
          · have hf := ite_t s8 hf
            refine r_tsIn (q := 3) (off := 59) (tgt := 70) hC dX6_of_11 s8 (by decide) (by decide) ?_
            refine r_aload_n hC dX6_of_70 0 rfl ?_
            refine r_iload_n hC dX6_of_71 1 rfl ?_
            obtain ⟨r9, er9, hf⟩ := ob_some hf
            refine r_cvi (As := [.int v1]) (rest := []) hC (c_X6_keptBy er9) yv_X6_keptBy ml_RX6_94 dM_0 ⟨by decide, by decide, rfl, rfl⟩ rfl rfl (Nat.le_of_ble_eq_true rfl) dX6_of_72 ?_
            have hf := Option.some.inj hf
            subst hf
            exact r_iret hC dX6_of_75 hk
          · have hf := ite_f s8 hf
            by_cases s10 : v2 = 4
            · have hf := ite_t s10 hf
              refine r_tsIn (q := 4) (off := 65) (tgt := 76) hC dX6_of_11 s10 (by decide) (by decide) ?_
              refine r_aload_n hC dX6_of_76 0 rfl ?_
              refine r_iload_n hC dX6_of_77 1 rfl ?_
              obtain ⟨r11, er11, hf⟩ := ob_some hf
              refine r_cvi (As := [.int v1]) (rest := []) hC (c_X6_sameAs er11) yv_X6_sameAs ml_RX6_97 dM_0 ⟨by decide, by decide, rfl, rfl⟩ rfl rfl (Nat.le_of_ble_eq_true rfl) dX6_of_78 ?_
              have hf := Option.some.inj hf
              subst hf
              exact r_iret hC dX6_of_81 hk
            · have hf := ite_f s10 hf
              refine r_tsOut (tgt := 82) hC dX6_of_11 (by have zs2 := lv_neT (a := 0) s2 rfl; have zs4 := lv_neT (a := 1) s4 rfl; have zs6 := lv_neT (a := 2) s6 rfl; have zs8 := lv_neT (a := 3) s8 rfl; have zs10 := lv_neT (a := 4) s10 rfl; omega) (by decide) ?_
              refine r_iconst (v := (-1)) hC dX6_of_82 (by decide) ?_
              have hf := Option.some.inj hf
              subst hf
              exact r_iret hC dX6_of_83 hk
  · have hf := ite_t c1 hf
    refine r_iconst (v := (-1)) hC dX6_of_8 (by decide) ?_
    have hf := Option.some.inj hf
    subst hf
    exact r_iret hC dX6_of_9 hk
set_option maxHeartbeats 4000000 in
set_option maxRecDepth 100000 in
theorem c_X6_of {l : Launch} {G : zG} {N : Nat} {u : zS} {v1 : Int32} {v2 : Int32} {r : Int32 × zS} (hf : f_X6_of N u v1 v2 = some r) : zM l dscM yX6_of cX6_of 3 (some .int) rm_X6_of G [.ref (G.1 0), .int v1, .int v2] u (some (.int r.1)) r.2 := zM.of (by decide) (Nat.le_of_ble_eq_true rfl) (fun X hC => t_X6_of hC r hf ⟨rfl, rfl⟩)
set_option maxHeartbeats 4000000 in
set_option maxRecDepth 100000 in
theorem t_X6_leads {l : Launch} {G : zG} {X : zX} {K : Option Value → zS → Prop} (hC : zC G X cX6_leads 3 RX6 (some .int)) {u : zS} {v1 : Int32} {v2 : Int32} (o : Int32) (hf : f_X6_leads u v1 v2 = some o) (hk : K (some (.int o)) u) : zW dscM l rm_X6_leads G X K u 0 [(0, .ref (G.1 0)), (1, .int v1), (2, .int v2)] [] := by
  unfold f_X6_leads at hf
  refine r_aload_n hC dX6_leads_0 0 rfl ?_
  refine r_iload_n hC dX6_leads_1 1 rfl ?_
  refine r_cvi (As := [.int v1]) (rest := []) hC c_X6_isFigure yv_X6_isFigure ml_RX6_87 dM_0 ⟨by decide, by decide, rfl, rfl⟩ rfl rfl (Nat.le_of_ble_eq_true rfl) dX6_leads_2 ?_
  refine r_if_eq (tgt := 24) hC dX6_leads_5 (by decide) (fun c1 => ?_) (fun c1 => ?_)
  · have hf := ite_t c1 hf
    refine r_iconst (v := (-1)) hC dX6_leads_24 (by decide) ?_
    have hf := Option.some.inj hf
    subst hf
    exact r_iret hC dX6_leads_25 hk
  · have hf := ite_f c1 hf
    refine r_iload_n hC dX6_leads_8 2 rfl ?_
    refine r_csi (As := [.int v2]) (rest := []) hC c_X6_isPlace ys_X6_isPlace ml_RX6_74 ⟨by decide, by decide, rfl, rfl⟩ rfl rfl (Nat.le_of_ble_eq_true rfl) dX6_leads_9 ?_
    refine r_if_eq (tgt := 24) hC dX6_leads_12 (by decide) (fun c2 => ?_) (fun c2 => ?_)
    · have hf := ite_t c2 hf
      refine r_iconst (v := (-1)) hC dX6_leads_24 (by decide) ?_
      have hf := Option.some.inj hf
      subst hf
      exact r_iret hC dX6_leads_25 hk
    · have hf := ite_f c2 hf
      refine r_aload_n hC dX6_leads_15 0 rfl ?_
      refine r_iload_n hC dX6_leads_16 1 rfl ?_
      refine r_iload_n hC dX6_leads_17 2 rfl ?_
      obtain ⟨r3, er3, hf⟩ := ob_some hf
      refine r_cvi (As := [.int v1, .int v2]) (rest := []) hC (c_X6_leadsOf er3) yv_X6_leadsOf ml_RX6_67 dM_0 ⟨by decide, by decide, rfl, rfl⟩ rfl rfl (Nat.le_of_ble_eq_true rfl) dX6_leads_18 ?_
      refine r_goto (tgt := 25) hC dX6_leads_21 (by decide) ?_
      have hf := Option.some.inj hf
      subst hf
      exact r_iret hC dX6_leads_25 hk
set_option maxHeartbeats 4000000 in
set_option maxRecDepth 100000 in
theorem c_X6_leads {l : Launch} {G : zG} {u : zS} {v1 : Int32} {v2 : Int32} {r : Int32} (hf : f_X6_leads u v1 v2 = some r) : zM l dscM yX6_leads cX6_leads 3 (some .int) rm_X6_leads G [.ref (G.1 0), .int v1, .int v2] u (some (.int r)) u := zM.of (by decide) (Nat.le_of_ble_eq_true rfl) (fun X hC => t_X6_leads hC r hf ⟨rfl, rfl⟩)
set_option maxHeartbeats 4000000 in
set_option maxRecDepth 100000 in
theorem t_X6_at {l : Launch} {G : zG} {X : zX} {K : Option Value → zS → Prop} (hC : zC G X cX6_at 2 RX6 (some .int)) {u : zS} {v1 : Int32} (o : Int32) (hf : f_X6_at u v1 = some o) (hk : K (some (.int o)) u) : zW dscM l rm_X6_at G X K u 0 [(0, .ref (G.1 0)), (1, .int v1)] [] := by
  unfold f_X6_at at hf
  refine r_aload_n hC dX6_at_0 0 rfl ?_
  refine r_iload_n hC dX6_at_1 1 rfl ?_
  refine r_cvi (As := [.int v1]) (rest := []) hC c_X6_isAngel yv_X6_isAngel ml_RX6_100 dM_0 ⟨by decide, by decide, rfl, rfl⟩ rfl rfl (Nat.le_of_ble_eq_true rfl) dX6_at_2 ?_
  refine r_if_eq (tgt := 19) hC dX6_at_5 (by decide) (fun c1 => ?_) (fun c1 => ?_)
  · have hf := ite_t c1 hf
    refine r_iconst (v := (-1)) hC dX6_at_19 (by decide) ?_
    have hf := Option.some.inj hf
    subst hf
    exact r_iret hC dX6_at_20 hk
  · have hf := ite_f c1 hf
    refine r_aload_n hC dX6_at_8 0 rfl ?_
    refine r_getr hC fd_RX6_7 dM_0 rfl dX6_at_9 ?_
    refine r_iconst (v := 5) hC dX6_at_12 (by decide) ?_
    refine r_iload_n hC dX6_at_13 1 rfl ?_
    refine r_iadd hC dX6_at_14 ?_
    obtain ⟨g2, hf⟩ := og_in hf
    refine r_iald hC dM_1 g2 dX6_at_15 ?_
    refine r_goto (tgt := 20) hC dX6_at_16 (by decide) ?_
    have hf := Option.some.inj hf
    subst hf
    exact r_iret hC dX6_at_20 hk
set_option maxHeartbeats 4000000 in
set_option maxRecDepth 100000 in
theorem c_X6_at {l : Launch} {G : zG} {u : zS} {v1 : Int32} {r : Int32} (hf : f_X6_at u v1 = some r) : zM l dscM yX6_at cX6_at 2 (some .int) rm_X6_at G [.ref (G.1 0), .int v1] u (some (.int r)) u := zM.of (by decide) (Nat.le_of_ble_eq_true rfl) (fun X hC => t_X6_at hC r hf ⟨rfl, rfl⟩)
set_option maxHeartbeats 4000000 in
set_option maxRecDepth 100000 in
theorem t_X6_seenOf_J63 {l : Launch} {G : zG} {X : zX} {K : Option Value → zS → Prop} (hC : zC G X cX6_seenOf 7 RX6 (some .int)) {N : Nat} {v0 : Int32} {v1 : Int32} {u : zS} {rec : Int32 → Int32 → Option (Int32)} (hrec : ∀ (v2 : Int32) (v3 : Int32) (o : Int32), rec v2 v3 = some o → zW dscM l rm_X6_seenOf G X K u 93 [(2, .int o)] [] → zW dscM l rm_X6_seenOf G X K u 5 [(0, .int v0), (1, .int v1), (2, .int v2), (3, .int v3)] []) : ∀ (v2 : Int32) (v3 : Int32) (v4 : Int32) (s0 : Int32) (o : Int32), f_X6_seenOf_J63 N v0 v1 rec v2 v3 v4 s0 = some o → zW dscM l rm_X6_seenOf G X K u 93 [(2, .int o)] [] → zW dscM l rm_X6_seenOf G X K u 63 [(0, .int v0), (1, .int v1), (2, .int v2), (3, .int v3), (4, .int v4)] [.int s0] := by
  intro v2 v3 v4 s0 o hf hk
  unfold f_X6_seenOf_J63 at hf
  refine r_istore (lv' := [(6, .int s0), (0, .int v0), (1, .int v1), (2, .int v2), (3, .int v3), (4, .int v4)]) hC dX6_seenOf_63 (by decide) rfl ?_
  refine r_iload_n hC dX6_seenOf_65 3 rfl ?_
  refine r_iload_n hC dX6_seenOf_66 1 rfl ?_
  refine r_iload hC dX6_seenOf_67 5 rfl ?_
  refine r_csi (As := [.int v0, .int v4]) (rest := [.int v2]) hC c_X6_has ys_X6_has ml_RX6_82 ⟨by decide, by decide, rfl, rfl⟩ rfl rfl (Nat.le_of_ble_eq_true rfl) dX6_seenOf_69 ?_
  refine r_if_eq (tgt := 84) hC dX6_seenOf_72 (by decide) (fun c6 => ?_) (fun c6 => ?_)
  · have hf := ite_t c6 hf
    refine r_iconst (v := 0) hC dX6_seenOf_84 (by decide) ?_
    refine r_iadd hC dX6_seenOf_85 ?_
    refine r_istore_n (lv' := [(2, .int (v2 + 0)), (6, .int s0), (0, .int v0), (1, .int v1), (3, .int v3), (4, .int v4)]) hC dX6_seenOf_86 rfl (by decide) rfl ?_
    refine r_iinc (v := 1) (lv' := [(3, .int (v3 + 1)), (2, .int (v2 + 0)), (6, .int s0), (0, .int v0), (1, .int v1), (4, .int v4)]) hC dX6_seenOf_87 4 rfl (by decide) (by decide) rfl ?_
    refine r_goto (tgt := 5) hC dX6_seenOf_90 (by decide) ?_
    refine r_loc [3, 4, 1, 0] rfl ?_
    exact hrec (v2 + 0) (v3 + 1) o hf hk
  · have hf := ite_f c6 hf
    refine r_iload hC dX6_seenOf_75 0 rfl ?_
    refine r_if_ne (tgt := 84) hC dX6_seenOf_77 (by decide) (fun c7 => ?_) (fun c7 => ?_)
    · have hf := ite_f c7 hf
      refine r_iconst (v := 0) hC dX6_seenOf_84 (by decide) ?_
      refine r_iadd hC dX6_seenOf_85 ?_
      refine r_istore_n (lv' := [(2, .int (v2 + 0)), (6, .int s0), (0, .int v0), (1, .int v1), (3, .int v3), (4, .int v4)]) hC dX6_seenOf_86 rfl (by decide) rfl ?_
      refine r_iinc (v := 1) (lv' := [(3, .int (v3 + 1)), (2, .int (v2 + 0)), (6, .int s0), (0, .int v0), (1, .int v1), (4, .int v4)]) hC dX6_seenOf_87 4 rfl (by decide) (by decide) rfl ?_
      refine r_goto (tgt := 5) hC dX6_seenOf_90 (by decide) ?_
      refine r_loc [3, 4, 1, 0] rfl ?_
      exact hrec (v2 + 0) (v3 + 1) o hf hk
    · have hf := ite_t c7 hf
      refine r_iconst (v := 1) hC dX6_seenOf_80 (by decide) ?_
      refine r_goto (tgt := 85) hC dX6_seenOf_81 (by decide) ?_
      refine r_iadd hC dX6_seenOf_85 ?_
      refine r_istore_n (lv' := [(2, .int (v2 + 1)), (6, .int s0), (0, .int v0), (1, .int v1), (3, .int v3), (4, .int v4)]) hC dX6_seenOf_86 rfl (by decide) rfl ?_
      refine r_iinc (v := 1) (lv' := [(3, .int (v3 + 1)), (2, .int (v2 + 1)), (6, .int s0), (0, .int v0), (1, .int v1), (4, .int v4)]) hC dX6_seenOf_87 4 rfl (by decide) (by decide) rfl ?_
      refine r_goto (tgt := 5) hC dX6_seenOf_90 (by decide) ?_
      refine r_loc [3, 4, 1, 0] rfl ?_
      exact hrec (v2 + 1) (v3 + 1) o hf hk
set_option maxHeartbeats 4000000 in
set_option maxRecDepth 100000 in
theorem t_X6_seenOf_J62 {l : Launch} {G : zG} {X : zX} {K : Option Value → zS → Prop} (hC : zC G X cX6_seenOf 7 RX6 (some .int)) {N : Nat} {v0 : Int32} {v1 : Int32} {u : zS} {rec : Int32 → Int32 → Option (Int32)} (hrec : ∀ (v2 : Int32) (v3 : Int32) (o : Int32), rec v2 v3 = some o → zW dscM l rm_X6_seenOf G X K u 93 [(2, .int o)] [] → zW dscM l rm_X6_seenOf G X K u 5 [(0, .int v0), (1, .int v1), (2, .int v2), (3, .int v3)] []) : ∀ (v2 : Int32) (v3 : Int32) (v4 : Int32) (o : Int32), f_X6_seenOf_J62 N v0 v1 rec v2 v3 v4 = some o → zW dscM l rm_X6_seenOf G X K u 93 [(2, .int o)] [] → zW dscM l rm_X6_seenOf G X K u 62 [(0, .int v0), (1, .int v1), (2, .int v2), (3, .int v3), (4, .int v4)] [] := by
  intro v2 v3 v4 o hf hk
  unfold f_X6_seenOf_J62 at hf
  refine r_iconst (v := 0) hC dX6_seenOf_62 (by decide) ?_
  exact t_X6_seenOf_J63 hC hrec  v2 v3 v4 0 o hf hk
set_option maxHeartbeats 4000000 in
set_option maxRecDepth 100000 in
theorem t_X6_seenOf_J49 {l : Launch} {G : zG} {X : zX} {K : Option Value → zS → Prop} (hC : zC G X cX6_seenOf 7 RX6 (some .int)) {N : Nat} {v0 : Int32} {v1 : Int32} {u : zS} {rec : Int32 → Int32 → Option (Int32)} (hrec : ∀ (v2 : Int32) (v3 : Int32) (o : Int32), rec v2 v3 = some o → zW dscM l rm_X6_seenOf G X K u 93 [(2, .int o)] [] → zW dscM l rm_X6_seenOf G X K u 5 [(0, .int v0), (1, .int v1), (2, .int v2), (3, .int v3)] []) : ∀ (v2 : Int32) (v3 : Int32) (v4 : Int32) (v5 : Int32) (o : Int32), f_X6_seenOf_J49 N v0 v1 rec v2 v3 v4 v5 = some o → zW dscM l rm_X6_seenOf G X K u 93 [(2, .int o)] [] → zW dscM l rm_X6_seenOf G X K u 49 [(0, .int v0), (1, .int v1), (2, .int v2), (3, .int v3), (4, .int v4), (5, .int v5)] [] := by
  intro v2 v3 v4 v5 o hf hk
  unfold f_X6_seenOf_J49 at hf
  refine r_iload_n hC dX6_seenOf_49 0 rfl ?_
  refine r_iload hC dX6_seenOf_50 5 rfl ?_
  refine r_csi (As := [.int v0, .int v5]) (rest := []) hC c_X6_has ys_X6_has ml_RX6_82 ⟨by decide, by decide, rfl, rfl⟩ rfl rfl (Nat.le_of_ble_eq_true rfl) dX6_seenOf_52 ?_
  refine r_if_eq (tgt := 62) hC dX6_seenOf_55 (by decide) (fun c5 => ?_) (fun c5 => ?_)
  · have hf := ite_t c5 hf
    refine r_loc [0, 1, 2, 3, 4] rfl ?_
    exact t_X6_seenOf_J62 hC hrec  v2 v3 v4 o hf hk
  · have hf := ite_f c5 hf
    refine r_iconst (v := 1) hC dX6_seenOf_58 (by decide) ?_
    refine r_goto (tgt := 63) hC dX6_seenOf_59 (by decide) ?_
    refine r_loc [0, 1, 2, 3, 4] rfl ?_
    exact t_X6_seenOf_J63 hC hrec  v2 v3 v4 1 o hf hk
set_option maxHeartbeats 4000000 in
set_option maxRecDepth 100000 in
theorem t_X6_seenOf_J33 {l : Launch} {G : zG} {X : zX} {K : Option Value → zS → Prop} (hC : zC G X cX6_seenOf 7 RX6 (some .int)) {N : Nat} {v0 : Int32} {v1 : Int32} {u : zS} {rec : Int32 → Int32 → Option (Int32)} (hrec : ∀ (v2 : Int32) (v3 : Int32) (o : Int32), rec v2 v3 = some o → zW dscM l rm_X6_seenOf G X K u 93 [(2, .int o)] [] → zW dscM l rm_X6_seenOf G X K u 5 [(0, .int v0), (1, .int v1), (2, .int v2), (3, .int v3)] []) : ∀ (v2 : Int32) (v3 : Int32) (v4 : Int32) (s0 : Int32) (s1 : Int32) (o : Int32), f_X6_seenOf_J33 N v0 v1 rec v2 v3 v4 s0 s1 = some o → zW dscM l rm_X6_seenOf G X K u 93 [(2, .int o)] [] → zW dscM l rm_X6_seenOf G X K u 33 [(0, .int v0), (1, .int v1), (2, .int v2), (3, .int v3), (4, .int v4)] [.int s1, .int s0] := by
  intro v2 v3 v4 s0 s1 o hf hk
  unfold f_X6_seenOf_J33 at hf
  refine r_iadd hC dX6_seenOf_33 ?_
  refine r_bipush (v := 8) hC dX6_seenOf_34 (by decide) ?_
  refine r_irem (x := (s0 + s1)) (y := 8) hC dX6_seenOf_36 (by decide) ?_
  refine r_istore (lv' := [(5, .int ((s0 + s1) - (s0 + s1) / 8 * 8)), (0, .int v0), (1, .int v1), (2, .int v2), (3, .int v3), (4, .int v4)]) hC dX6_seenOf_37 (by decide) rfl ?_
  refine r_iload_n hC dX6_seenOf_39 4 rfl ?_
  refine r_iconst (v := 1) hC dX6_seenOf_40 (by decide) ?_
  refine r_icmp_gt (tgt := 49) hC dX6_seenOf_41 (by decide) (fun c4 => ?_) (fun c4 => ?_)
  · have hf := ite_t c4 hf
    refine r_loc [1, 2, 3, 4, 5, 0] rfl ?_
    exact t_X6_seenOf_J49 hC hrec  v2 v3 v4 ((s0 + s1) - (s0 + s1) / 8 * 8) o hf hk
  · have hf := ite_f c4 hf
    refine r_iload_n hC dX6_seenOf_44 4 rfl ?_
    refine r_iconst (v := (-1)) hC dX6_seenOf_45 (by decide) ?_
    refine r_icmp_ge (tgt := 62) hC dX6_seenOf_46 (by decide) (fun c8 => ?_) (fun c8 => ?_)
    · have hf := ite_t c8 hf
      refine r_loc [1, 2, 3, 4, 5] rfl ?_
      exact t_X6_seenOf_J62 hC hrec  v2 v3 v4 o hf hk
    · have hf := ite_f c8 hf
      refine r_loc [1, 2, 3, 4, 5, 0] rfl ?_
      exact t_X6_seenOf_J49 hC hrec  v2 v3 v4 ((s0 + s1) - (s0 + s1) / 8 * 8) o hf hk
set_option maxHeartbeats 4000000 in
set_option maxRecDepth 100000 in
theorem t_X6_seenOf_L5_B {l : Launch} {G : zG} {X : zX} {K : Option Value → zS → Prop} (hC : zC G X cX6_seenOf 7 RX6 (some .int)) {N : Nat} {v0 : Int32} {v1 : Int32} {u : zS} {rec : Int32 → Int32 → Option (Int32)} (hrec : ∀ (v2 : Int32) (v3 : Int32) (o : Int32), rec v2 v3 = some o → zW dscM l rm_X6_seenOf G X K u 93 [(2, .int o)] [] → zW dscM l rm_X6_seenOf G X K u 5 [(0, .int v0), (1, .int v1), (2, .int v2), (3, .int v3)] []) : ∀ (v2 : Int32) (v3 : Int32) (o : Int32), f_X6_seenOf_L5_B N v0 v1 rec v2 v3 = some o → zW dscM l rm_X6_seenOf G X K u 93 [(2, .int o)] [] → zW dscM l rm_X6_seenOf G X K u 5 [(0, .int v0), (1, .int v1), (2, .int v2), (3, .int v3)] [] := by
  intro v2 v3 o hf hk
  unfold f_X6_seenOf_L5_B at hf
  refine r_iload_n hC dX6_seenOf_5 3 rfl ?_
  refine r_iconst (v := 3) hC dX6_seenOf_6 (by decide) ?_
  refine r_icmp_gt (tgt := 93) hC dX6_seenOf_7 (by decide) (fun c1 => ?_) (fun c1 => ?_)
  · have hf := ite_t c1 hf
    have hf := Option.some.inj hf
    subst hf
    refine r_loc [2] rfl ?_
    exact hk
  · have hf := ite_f c1 hf
    refine r_iload_n hC dX6_seenOf_10 1 rfl ?_
    refine r_iload_n hC dX6_seenOf_11 3 rfl ?_
    refine r_iadd hC dX6_seenOf_12 ?_
    refine r_bipush (v := 8) hC dX6_seenOf_13 (by decide) ?_
    refine r_iadd hC dX6_seenOf_15 ?_
    refine r_bipush (v := 8) hC dX6_seenOf_16 (by decide) ?_
    refine r_irem (x := ((v1 + v3) + 8)) (y := 8) hC dX6_seenOf_18 (by decide) ?_
    refine r_topi (fun w2 ew2 => ?_)
    have hf := olet_at ew2 hf
    refine r_istore (lv' := [(4, .int w2), (0, .int v0), (1, .int v1), (2, .int v2), (3, .int v3)]) hC dX6_seenOf_19 (by decide) rfl ?_
    refine r_iload hC dX6_seenOf_21 0 rfl ?_
    refine r_iload_n hC dX6_seenOf_23 4 rfl ?_
    refine r_if_le (tgt := 32) hC dX6_seenOf_24 (by decide) (fun c3 => ?_) (fun c3 => ?_)
    · have hf := ite_t c3 hf
      refine r_iconst (v := 1) hC dX6_seenOf_32 (by decide) ?_
      refine r_loc [1, 2, 3, 4, 0] rfl ?_
      exact t_X6_seenOf_J33 hC hrec  v2 v3 w2 w2 1 o hf hk
    · have hf := ite_f c3 hf
      refine r_bipush (v := 7) hC dX6_seenOf_27 (by decide) ?_
      refine r_goto (tgt := 33) hC dX6_seenOf_29 (by decide) ?_
      refine r_loc [1, 2, 3, 4, 0] rfl ?_
      exact t_X6_seenOf_J33 hC hrec  v2 v3 w2 w2 7 o hf hk
set_option maxHeartbeats 4000000 in
set_option maxRecDepth 100000 in
theorem t_X6_seenOf_L5 {l : Launch} {G : zG} {X : zX} {K : Option Value → zS → Prop} (hC : zC G X cX6_seenOf 7 RX6 (some .int)) {N : Nat} {v0 : Int32} {v1 : Int32} {u : zS} : ∀ (n : Nat) (v2 : Int32) (v3 : Int32) (o : Int32), f_X6_seenOf_L5 N v0 v1 n v2 v3 = some o → zW dscM l rm_X6_seenOf G X K u 93 [(2, .int o)] [] → zW dscM l rm_X6_seenOf G X K u 5 [(0, .int v0), (1, .int v1), (2, .int v2), (3, .int v3)] [] := by
  intro n
  induction n with
  | zero => intro v2 v3 o hf; cases hf
  | succ n ih => intro v2 v3 o hf hk; exact t_X6_seenOf_L5_B hC (rec := f_X6_seenOf_L5 N v0 v1 n) ih v2 v3 o hf hk
set_option maxHeartbeats 4000000 in
set_option maxRecDepth 100000 in
theorem t_X6_seenOf {l : Launch} {G : zG} {X : zX} {K : Option Value → zS → Prop} (hC : zC G X cX6_seenOf 7 RX6 (some .int)) {N : Nat} {u : zS} {v0 : Int32} {v1 : Int32} (o : Int32) (hf : f_X6_seenOf N v0 v1 = some o) (hk : K (some (.int o)) u) : zW dscM l rm_X6_seenOf G X K u 0 [(0, .int v0), (1, .int v1)] [] := by
  unfold f_X6_seenOf at hf
  refine r_iconst (v := 0) hC dX6_seenOf_0 (by decide) ?_
  refine r_istore_n (lv' := [(2, .int 0), (0, .int v0), (1, .int v1)]) hC dX6_seenOf_1 rfl (by decide) rfl ?_
  refine r_bipush (v := (-3)) hC dX6_seenOf_2 (by decide) ?_
  refine r_istore_n (lv' := [(3, .int (-3)), (2, .int 0), (0, .int v0), (1, .int v1)]) hC dX6_seenOf_4 rfl (by decide) rfl ?_
  refine r_loc [2, 3, 1, 0] rfl ?_
  obtain ⟨q9, eq9, hf⟩ := ob_some hf
  refine t_X6_seenOf_L5 hC N 0 (-3) q9 eq9 ?_
  refine r_iload_n hC dX6_seenOf_93 0 rfl ?_
  have hf := Option.some.inj hf
  subst hf
  exact r_iret hC dX6_seenOf_94 hk
set_option maxHeartbeats 4000000 in
set_option maxRecDepth 100000 in
theorem c_X6_seenOf {l : Launch} {G : zG} {N : Nat} {u : zS} {v0 : Int32} {v1 : Int32} {r : Int32} (hf : f_X6_seenOf N v0 v1 = some r) : zM l dscM yX6_seenOf cX6_seenOf 7 (some .int) rm_X6_seenOf G [.int v0, .int v1] u (some (.int r)) u := zM.of (by decide) (Nat.le_of_ble_eq_true rfl) (fun X hC => t_X6_seenOf hC r hf ⟨rfl, rfl⟩)
set_option maxHeartbeats 4000000 in
set_option maxRecDepth 100000 in
theorem t_X6_seen {l : Launch} {G : zG} {X : zX} {K : Option Value → zS → Prop} (hC : zC G X cX6_seen 2 RX6 (some .int)) {N : Nat} {u : zS} {v1 : Int32} (o : Int32) (hf : f_X6_seen N u v1 = some o) (hk : K (some (.int o)) u) : zW dscM l rm_X6_seen G X K u 0 [(0, .ref (G.1 0)), (1, .int v1)] [] := by
  unfold f_X6_seen at hf
  refine r_iload_n hC dX6_seen_0 1 rfl ?_
  refine r_csi (As := [.int v1]) (rest := []) hC c_X6_isPlace ys_X6_isPlace ml_RX6_74 ⟨by decide, by decide, rfl, rfl⟩ rfl rfl (Nat.le_of_ble_eq_true rfl) dX6_seen_1 ?_
  refine r_if_eq (tgt := 18) hC dX6_seen_4 (by decide) (fun c1 => ?_) (fun c1 => ?_)
  · have hf := ite_t c1 hf
    refine r_iconst (v := (-1)) hC dX6_seen_18 (by decide) ?_
    have hf := Option.some.inj hf
    subst hf
    exact r_iret hC dX6_seen_19 hk
  · have hf := ite_f c1 hf
    refine r_aload_n hC dX6_seen_7 0 rfl ?_
    obtain ⟨r2, er2, hf⟩ := ob_some hf
    refine r_cvi (As := []) (rest := []) hC (c_X6_taken er2) yv_X6_taken ml_RX6_78 dM_0 ⟨by decide, by decide, rfl, rfl⟩ rfl rfl (Nat.le_of_ble_eq_true rfl) dX6_seen_8 ?_
    refine r_iload_n hC dX6_seen_11 1 rfl ?_
    obtain ⟨r3, er3, hf⟩ := ob_some hf
    refine r_csi (As := [.int r2, .int v1]) (rest := []) hC (c_X6_seenOf er3) ys_X6_seenOf ml_RX6_103 ⟨by decide, by decide, rfl, rfl⟩ rfl rfl (Nat.le_of_ble_eq_true rfl) dX6_seen_12 ?_
    refine r_goto (tgt := 19) hC dX6_seen_15 (by decide) ?_
    have hf := Option.some.inj hf
    subst hf
    exact r_iret hC dX6_seen_19 hk
set_option maxHeartbeats 4000000 in
set_option maxRecDepth 100000 in
theorem c_X6_seen {l : Launch} {G : zG} {N : Nat} {u : zS} {v1 : Int32} {r : Int32} (hf : f_X6_seen N u v1 = some r) : zM l dscM yX6_seen cX6_seen 2 (some .int) rm_X6_seen G [.ref (G.1 0), .int v1] u (some (.int r)) u := zM.of (by decide) (Nat.le_of_ble_eq_true rfl) (fun X hC => t_X6_seen hC r hf ⟨rfl, rfl⟩)
set_option maxHeartbeats 4000000 in
set_option maxRecDepth 100000 in
theorem t_X6_type {l : Launch} {G : zG} {X : zX} {K : Option Value → zS → Prop} (hC : zC G X cX6_type 2 RX6 (some .int)) {u : zS} {v1 : Int32} (o : Int32 × zS) (hf : f_X6_type u v1 = some o) (hk : K (some (.int o.1)) o.2) : zW dscM l rm_X6_type G X K u 0 [(0, .ref (G.1 0)), (1, .int v1)] [] := by
  unfold f_X6_type at hf
  refine r_iload_n hC dX6_type_0 1 rfl ?_
  refine r_i2l hC dX6_type_1 ?_
  refine r_ldc2 hC cn_RX6_106 dX6_type_2 ?_
  refine r_ldc2 hC cn_RX6_108 dX6_type_5 ?_
  refine r_csi (As := [.long (Int32.toInt64 v1), .long 32, .long 126]) (rest := []) hC c_X6_in ys_X6_in ml_RX6_52 ⟨by decide, by decide, rfl, rfl⟩ rfl rfl (Nat.le_of_ble_eq_true rfl) dX6_type_8 ?_
  refine r_if_ne (tgt := 16) hC dX6_type_11 (by decide) (fun c1 => ?_) (fun c1 => ?_)
  · have hf := ite_f c1 hf
    refine r_aload_n hC dX6_type_16 0 rfl ?_
    refine r_geti hC fd_RX6_110 dM_0 rfl dX6_type_17 ?_
    refine r_bipush (v := 60) hC dX6_type_20 (by decide) ?_
    refine r_icmp_ne (tgt := 28) hC dX6_type_22 (by decide) (fun c2 => ?_) (fun c2 => ?_)
    · have hf := ite_f c2 hf
      refine r_aload_n hC dX6_type_28 0 rfl ?_
      refine r_getr hC fd_RX6_13 dM_0 rfl dX6_type_29 ?_
      refine r_aload_n hC dX6_type_32 0 rfl ?_
      refine r_geti hC fd_RX6_110 dM_0 rfl dX6_type_33 ?_
      refine r_iload_n hC dX6_type_36 1 rfl ?_
      obtain ⟨g3, hf⟩ := og_in hf
      refine r_iast hC dM_2 g3 dX6_type_37 ?_
      refine r_tops (fun u4 eu4 => ?_)
      have hf := olet_at eu4 hf
      refine r_aload_n hC dX6_type_38 0 rfl ?_
      refine r_dup hC dX6_type_39 rfl ?_
      refine r_geti hC fd_RX6_110 dM_0 rfl dX6_type_40 ?_
      refine r_iconst (v := 1) hC dX6_type_43 (by decide) ?_
      refine r_iadd hC dX6_type_44 ?_
      refine r_puti hC fp_RX6_110 dM_0 rfl dX6_type_45 ?_
      refine r_tops (fun u5 eu5 => ?_)
      have hf := olet_at eu5 hf
      refine r_aload_n hC dX6_type_48 0 rfl ?_
      refine r_geti hC fd_RX6_110 dM_0 rfl dX6_type_49 ?_
      have hf := Option.some.inj hf
      subst hf
      exact r_iret hC dX6_type_52 hk
    · have hf := ite_t c2 hf
      refine r_bipush (v := (-3)) hC dX6_type_25 (by decide) ?_
      have hf := Option.some.inj hf
      subst hf
      exact r_iret hC dX6_type_27 hk
  · have hf := ite_t c1 hf
    refine r_iconst (v := (-1)) hC dX6_type_14 (by decide) ?_
    have hf := Option.some.inj hf
    subst hf
    exact r_iret hC dX6_type_15 hk
set_option maxHeartbeats 4000000 in
set_option maxRecDepth 100000 in
theorem c_X6_type {l : Launch} {G : zG} {u : zS} {v1 : Int32} {r : Int32 × zS} (hf : f_X6_type u v1 = some r) : zM l dscM yX6_type cX6_type 2 (some .int) rm_X6_type G [.ref (G.1 0), .int v1] u (some (.int r.1)) r.2 := zM.of (by decide) (Nat.le_of_ble_eq_true rfl) (fun X hC => t_X6_type hC r hf ⟨rfl, rfl⟩)
set_option maxHeartbeats 4000000 in
set_option maxRecDepth 100000 in
theorem t_X6_peek_L0_B {l : Launch} {G : zG} {X : zX} {K : Option Value → zS → Prop} (hC : zC G X cX6_peek 1 RX6 (some .int)) {N : Nat} {rec : zS → Option (zS)} (hrec : ∀ (u : zS) (o : zS), rec u = some o → zW dscM l rm_X6_peek G X K o 38 [(0, .ref (G.1 0))] [] → zW dscM l rm_X6_peek G X K u 0 [(0, .ref (G.1 0))] []) : ∀ (u : zS) (o : zS), f_X6_peek_L0_B N rec u = some o → zW dscM l rm_X6_peek G X K o 38 [(0, .ref (G.1 0))] [] → zW dscM l rm_X6_peek G X K u 0 [(0, .ref (G.1 0))] [] := by
  intro u o hf hk
  unfold f_X6_peek_L0_B at hf
  refine r_aload_n hC dX6_peek_0 0 rfl ?_
  refine r_geti hC fd_RX6_114 dM_0 rfl dX6_peek_1 ?_
  refine r_aload_n hC dX6_peek_4 0 rfl ?_
  refine r_geti hC fd_RX6_110 dM_0 rfl dX6_peek_5 ?_
  refine r_icmp_ge (tgt := 38) hC dX6_peek_8 (by decide) (fun c1 => ?_) (fun c1 => ?_)
  · have hf := ite_t c1 hf
    have hf := Option.some.inj hf
    subst hf
    exact hk
  · have hf := ite_f c1 hf
    refine r_aload_n hC dX6_peek_11 0 rfl ?_
    refine r_getr hC fd_RX6_13 dM_0 rfl dX6_peek_12 ?_
    refine r_aload_n hC dX6_peek_15 0 rfl ?_
    refine r_geti hC fd_RX6_114 dM_0 rfl dX6_peek_16 ?_
    obtain ⟨g2, hf⟩ := og_in hf
    refine r_iald hC dM_2 g2 dX6_peek_19 ?_
    refine r_bipush (v := 32) hC dX6_peek_20 (by decide) ?_
    refine r_icmp_ne (tgt := 38) hC dX6_peek_22 (by decide) (fun c3 => ?_) (fun c3 => ?_)
    · have hf := ite_f c3 hf
      have hf := Option.some.inj hf
      subst hf
      exact hk
    · have hf := ite_t c3 hf
      refine r_aload_n hC dX6_peek_25 0 rfl ?_
      refine r_dup hC dX6_peek_26 rfl ?_
      refine r_geti hC fd_RX6_114 dM_0 rfl dX6_peek_27 ?_
      refine r_iconst (v := 1) hC dX6_peek_30 (by decide) ?_
      refine r_iadd hC dX6_peek_31 ?_
      refine r_puti hC fp_RX6_114 dM_0 rfl dX6_peek_32 ?_
      refine r_tops (fun u4 eu4 => ?_)
      have hf := olet_at eu4 hf
      refine r_goto (tgt := 0) hC dX6_peek_35 (by decide) ?_
      exact hrec u4 o hf hk
set_option maxHeartbeats 4000000 in
set_option maxRecDepth 100000 in
theorem t_X6_peek_L0 {l : Launch} {G : zG} {X : zX} {K : Option Value → zS → Prop} (hC : zC G X cX6_peek 1 RX6 (some .int)) {N : Nat} : ∀ (n : Nat) (u : zS) (o : zS), f_X6_peek_L0 N n u = some o → zW dscM l rm_X6_peek G X K o 38 [(0, .ref (G.1 0))] [] → zW dscM l rm_X6_peek G X K u 0 [(0, .ref (G.1 0))] [] := by
  intro n
  induction n with
  | zero => intro u o hf; cases hf
  | succ n ih => intro u o hf hk; exact t_X6_peek_L0_B hC (rec := f_X6_peek_L0 N n) ih u o hf hk
set_option maxHeartbeats 4000000 in
set_option maxRecDepth 100000 in
theorem t_X6_peek {l : Launch} {G : zG} {X : zX} {K : Option Value → zS → Prop} (hC : zC G X cX6_peek 1 RX6 (some .int)) {N : Nat} {u : zS} (o : Int32 × zS) (hf : f_X6_peek N u = some o) (hk : K (some (.int o.1)) o.2) : zW dscM l rm_X6_peek G X K u 0 [(0, .ref (G.1 0))] [] := by
  unfold f_X6_peek at hf
  obtain ⟨q5, eq5, hf⟩ := ob_some hf
  refine t_X6_peek_L0 hC N u q5 eq5 ?_
  refine r_aload_n hC dX6_peek_38 0 rfl ?_
  refine r_geti hC fd_RX6_114 dM_0 rfl dX6_peek_39 ?_
  refine r_aload_n hC dX6_peek_42 0 rfl ?_
  refine r_geti hC fd_RX6_110 dM_0 rfl dX6_peek_43 ?_
  refine r_icmp_ge (tgt := 61) hC dX6_peek_46 (by decide) (fun c6 => ?_) (fun c6 => ?_)
  · have hf := ite_t c6 hf
    refine r_iconst (v := 0) hC dX6_peek_61 (by decide) ?_
    have hf := Option.some.inj hf
    subst hf
    exact r_iret hC dX6_peek_62 hk
  · have hf := ite_f c6 hf
    refine r_aload_n hC dX6_peek_49 0 rfl ?_
    refine r_getr hC fd_RX6_13 dM_0 rfl dX6_peek_50 ?_
    refine r_aload_n hC dX6_peek_53 0 rfl ?_
    refine r_geti hC fd_RX6_114 dM_0 rfl dX6_peek_54 ?_
    obtain ⟨g7, hf⟩ := og_in hf
    refine r_iald hC dM_2 g7 dX6_peek_57 ?_
    refine r_goto (tgt := 62) hC dX6_peek_58 (by decide) ?_
    have hf := Option.some.inj hf
    subst hf
    exact r_iret hC dX6_peek_62 hk
set_option maxHeartbeats 4000000 in
set_option maxRecDepth 100000 in
theorem c_X6_peek {l : Launch} {G : zG} {N : Nat} {u : zS} {r : Int32 × zS} (hf : f_X6_peek N u = some r) : zM l dscM yX6_peek cX6_peek 1 (some .int) rm_X6_peek G [.ref (G.1 0)] u (some (.int r.1)) r.2 := zM.of (by decide) (Nat.le_of_ble_eq_true rfl) (fun X hC => t_X6_peek hC r hf ⟨rfl, rfl⟩)
set_option maxHeartbeats 4000000 in
set_option maxRecDepth 100000 in
theorem t_X6_takes {l : Launch} {G : zG} {X : zX} {K : Option Value → zS → Prop} (hC : zC G X cX6_takes 2 RX6 (some .boolean)) {N : Nat} {u : zS} {v1 : Int32} (o : Int32 × zS) (hf : f_X6_takes N u v1 = some o) (hk : K (some (.int o.1)) o.2) : zW dscM l rm_X6_takes G X K u 0 [(0, .ref (G.1 0)), (1, .int v1)] [] := by
  unfold f_X6_takes at hf
  refine r_aload_n hC dX6_takes_0 0 rfl ?_
  obtain ⟨r1, er1, hf⟩ := ob_some hf
  refine r_cvi (As := []) (rest := []) hC (c_X6_peek er1) yv_X6_peek ml_RX6_117 dM_0 ⟨by decide, by decide, rfl, rfl⟩ rfl rfl (Nat.le_of_ble_eq_true rfl) dX6_takes_1 ?_
  refine r_iload_n hC dX6_takes_4 1 rfl ?_
  refine r_icmp_eq (tgt := 10) hC dX6_takes_5 (by decide) (fun c2 => ?_) (fun c2 => ?_)
  · have hf := ite_t c2 hf
    refine r_aload_n hC dX6_takes_10 0 rfl ?_
    refine r_dup hC dX6_takes_11 rfl ?_
    refine r_geti hC fd_RX6_114 dM_0 rfl dX6_takes_12 ?_
    refine r_iconst (v := 1) hC dX6_takes_15 (by decide) ?_
    refine r_iadd hC dX6_takes_16 ?_
    refine r_puti hC fp_RX6_114 dM_0 rfl dX6_takes_17 ?_
    refine r_tops (fun u3 eu3 => ?_)
    have hf := olet_at eu3 hf
    refine r_iconst (v := 1) hC dX6_takes_20 (by decide) ?_
    have hf := Option.some.inj hf
    subst hf
    exact r_zret hC rfl dX6_takes_21 hk
  · have hf := ite_f c2 hf
    refine r_iconst (v := 0) hC dX6_takes_8 (by decide) ?_
    have hf := Option.some.inj hf
    subst hf
    exact r_zret hC rfl dX6_takes_9 hk
set_option maxHeartbeats 4000000 in
set_option maxRecDepth 100000 in
theorem c_X6_takes {l : Launch} {G : zG} {N : Nat} {u : zS} {v1 : Int32} {r : Int32 × zS} (hf : f_X6_takes N u v1 = some r) : zM l dscM yX6_takes cX6_takes 2 (some .boolean) rm_X6_takes G [.ref (G.1 0), .int v1] u (some (.int r.1)) r.2 := zM.of (by decide) (Nat.le_of_ble_eq_true rfl) (fun X hC => t_X6_takes hC r hf ⟨rfl, rfl⟩)
set_option maxHeartbeats 4000000 in
set_option maxRecDepth 100000 in
theorem t_X6_kindOf {l : Launch} {G : zG} {X : zX} {K : Option Value → zS → Prop} (hC : zC G X cX6_kindOf 1 RX6 (some .int)) {u : zS} {v0 : Int32} (o : Int32) (hf : f_X6_kindOf v0 = o) (hk : K (some (.int o)) u) : zW dscM l rm_X6_kindOf G X K u 0 [(0, .int v0)] [] := by
  unfold f_X6_kindOf at hf
  refine r_iload_n hC dX6_kindOf_0 0 rfl ?_
  refine r_bipush (v := 114) hC dX6_kindOf_1 (by decide) ?_
  refine r_icmp_ne (tgt := 10) hC dX6_kindOf_3 (by decide) (fun c1 => ?_) (fun c1 => ?_)
  · have hf := ite_f c1 hf
    refine r_iload_n hC dX6_kindOf_10 0 rfl ?_
    refine r_bipush (v := 101) hC dX6_kindOf_11 (by decide) ?_
    refine r_icmp_ne (tgt := 20) hC dX6_kindOf_13 (by decide) (fun c2 => ?_) (fun c2 => ?_)
    · have hf := ite_f c2 hf
      refine r_iload_n hC dX6_kindOf_20 0 rfl ?_
      refine r_bipush (v := 109) hC dX6_kindOf_21 (by decide) ?_
      refine r_icmp_ne (tgt := 30) hC dX6_kindOf_23 (by decide) (fun c3 => ?_) (fun c3 => ?_)
      · have hf := ite_f c3 hf
        refine r_iload_n hC dX6_kindOf_30 0 rfl ?_
        refine r_bipush (v := 104) hC dX6_kindOf_31 (by decide) ?_
        refine r_icmp_ne (tgt := 40) hC dX6_kindOf_33 (by decide) (fun c4 => ?_) (fun c4 => ?_)
        · have hf := ite_f c4 hf
          refine r_iload_n hC dX6_kindOf_40 0 rfl ?_
          refine r_bipush (v := 99) hC dX6_kindOf_41 (by decide) ?_
          refine r_icmp_ne (tgt := 50) hC dX6_kindOf_43 (by decide) (fun c5 => ?_) (fun c5 => ?_)
          · have hf := ite_f c5 hf
            refine r_iconst (v := (-1)) hC dX6_kindOf_50 (by decide) ?_
            subst hf
            exact r_iret hC dX6_kindOf_51 hk
          · have hf := ite_t c5 hf
            refine r_iconst (v := 4) hC dX6_kindOf_46 (by decide) ?_
            refine r_goto (tgt := 51) hC dX6_kindOf_47 (by decide) ?_
            subst hf
            exact r_iret hC dX6_kindOf_51 hk
        · have hf := ite_t c4 hf
          refine r_iconst (v := 3) hC dX6_kindOf_36 (by decide) ?_
          refine r_goto (tgt := 51) hC dX6_kindOf_37 (by decide) ?_
          subst hf
          exact r_iret hC dX6_kindOf_51 hk
      · have hf := ite_t c3 hf
        refine r_iconst (v := 2) hC dX6_kindOf_26 (by decide) ?_
        refine r_goto (tgt := 51) hC dX6_kindOf_27 (by decide) ?_
        subst hf
        exact r_iret hC dX6_kindOf_51 hk
    · have hf := ite_t c2 hf
      refine r_iconst (v := 1) hC dX6_kindOf_16 (by decide) ?_
      refine r_goto (tgt := 51) hC dX6_kindOf_17 (by decide) ?_
      subst hf
      exact r_iret hC dX6_kindOf_51 hk
  · have hf := ite_t c1 hf
    refine r_iconst (v := 0) hC dX6_kindOf_6 (by decide) ?_
    refine r_goto (tgt := 51) hC dX6_kindOf_7 (by decide) ?_
    subst hf
    exact r_iret hC dX6_kindOf_51 hk
set_option maxHeartbeats 4000000 in
set_option maxRecDepth 100000 in
theorem c_X6_kindOf {l : Launch} {G : zG} {u : zS} {v0 : Int32} : zM l dscM yX6_kindOf cX6_kindOf 1 (some .int) rm_X6_kindOf G [.int v0] u (some (.int (f_X6_kindOf v0))) u := zM.of (by decide) (Nat.le_of_ble_eq_true rfl) (fun X hC => t_X6_kindOf hC _ rfl ⟨rfl, rfl⟩)
set_option maxHeartbeats 4000000 in
set_option maxRecDepth 100000 in
theorem t_X6_takesPlaces_J27 {l : Launch} {G : zG} {X : zX} {K : Option Value → zS → Prop} (hC : zC G X cX6_takesPlaces 3 RX6 (some .boolean)) {N : Nat} {rec : zS → Int32 → Option ((Int32 × zS) ⊕ (zS))} (hrec : ∀ (u : zS) (v1 : Int32) (o : (Int32 × zS) ⊕ (zS)), rec u v1 = some o → ((∀ q, o = .inl q → K (some (.int q.1)) q.2) ∧ (∀ q, o = .inr q → zW dscM l rm_X6_takesPlaces G X K q 79 [] [])) → zW dscM l rm_X6_takesPlaces G X K u 2 [(0, .ref (G.1 0)), (1, .int v1)] []) : ∀ (u : zS) (v1 : Int32) (v2 : Int32) (o : (Int32 × zS) ⊕ (zS)), f_X6_takesPlaces_J27 N rec u v1 v2 = some o → ((∀ q, o = .inl q → K (some (.int q.1)) q.2) ∧ (∀ q, o = .inr q → zW dscM l rm_X6_takesPlaces G X K q 79 [] [])) → zW dscM l rm_X6_takesPlaces G X K u 27 [(0, .ref (G.1 0)), (1, .int v1), (2, .int v2)] [] := by
  intro u v1 v2 o hf hk
  unfold f_X6_takesPlaces_J27 at hf
  refine r_aload_n hC dX6_takesPlaces_27 0 rfl ?_
  refine r_dup hC dX6_takesPlaces_28 rfl ?_
  refine r_geti hC fd_RX6_114 dM_0 rfl dX6_takesPlaces_29 ?_
  refine r_iconst (v := 1) hC dX6_takesPlaces_32 (by decide) ?_
  refine r_iadd hC dX6_takesPlaces_33 ?_
  refine r_puti hC fp_RX6_114 dM_0 rfl dX6_takesPlaces_34 ?_
  refine r_tops (fun u4 eu4 => ?_)
  have hf := olet_at eu4 hf
  refine r_iload_n hC dX6_takesPlaces_37 2 rfl ?_
  refine r_bipush (v := 42) hC dX6_takesPlaces_38 (by decide) ?_
  refine r_icmp_ne (tgt := 73) hC dX6_takesPlaces_40 (by decide) (fun c5 => ?_) (fun c5 => ?_)
  · have hf := ite_f c5 hf
    refine r_iinc (v := 1) (lv' := [(1, .int (v1 + 1)), (0, .ref (G.1 0)), (2, .int v2)]) hC dX6_takesPlaces_73 1 rfl (by decide) (by decide) rfl ?_
    refine r_goto (tgt := 2) hC dX6_takesPlaces_76 (by decide) ?_
    refine r_loc [1, 0] rfl ?_
    exact hrec u4 (v1 + 1) o hf hk
  · have hf := ite_t c5 hf
    refine r_aload_n hC dX6_takesPlaces_43 0 rfl ?_
    refine r_getr hC fd_RX6_7 dM_0 rfl dX6_takesPlaces_44 ?_
    refine r_sipush (v := 245) hC dX6_takesPlaces_47 (by decide) ?_
    refine r_aload_n hC dX6_takesPlaces_50 0 rfl ?_
    refine r_getr hC fd_RX6_7 dM_0 rfl dX6_takesPlaces_51 ?_
    refine r_sipush (v := 240) hC dX6_takesPlaces_54 (by decide) ?_
    refine r_ialdK (j := 240) hC dM_1 (inK (by decide)) dX6_takesPlaces_57 ?_
    refine r_iadd hC dX6_takesPlaces_58 ?_
    refine r_iload_n hC dX6_takesPlaces_59 1 rfl ?_
    obtain ⟨g6, hf⟩ := og_in hf
    refine r_iast hC dM_1 g6 dX6_takesPlaces_60 ?_
    refine r_tops (fun u7 eu7 => ?_)
    have hf := olet_at eu7 hf
    refine r_aload_n hC dX6_takesPlaces_61 0 rfl ?_
    refine r_getr hC fd_RX6_7 dM_0 rfl dX6_takesPlaces_62 ?_
    refine r_sipush (v := 240) hC dX6_takesPlaces_65 (by decide) ?_
    refine r_dup2 hC dX6_takesPlaces_68 rfl rfl ?_
    refine r_ialdK (j := 240) hC dM_1 (inK (by decide)) dX6_takesPlaces_69 ?_
    refine r_iconst (v := 1) hC dX6_takesPlaces_70 (by decide) ?_
    refine r_iadd hC dX6_takesPlaces_71 ?_
    refine r_iastK (j := 240) hC dM_1 (inK (by decide)) dX6_takesPlaces_72 ?_
    refine r_tops (fun u8 eu8 => ?_)
    have hf := olet_at eu8 hf
    refine r_iinc (v := 1) (lv' := [(1, .int (v1 + 1)), (0, .ref (G.1 0)), (2, .int v2)]) hC dX6_takesPlaces_73 1 rfl (by decide) (by decide) rfl ?_
    refine r_goto (tgt := 2) hC dX6_takesPlaces_76 (by decide) ?_
    refine r_loc [1, 0] rfl ?_
    exact hrec u8 (v1 + 1) o hf hk
set_option maxHeartbeats 4000000 in
set_option maxRecDepth 100000 in
theorem t_X6_takesPlaces_L2_B {l : Launch} {G : zG} {X : zX} {K : Option Value → zS → Prop} (hC : zC G X cX6_takesPlaces 3 RX6 (some .boolean)) {N : Nat} {rec : zS → Int32 → Option ((Int32 × zS) ⊕ (zS))} (hrec : ∀ (u : zS) (v1 : Int32) (o : (Int32 × zS) ⊕ (zS)), rec u v1 = some o → ((∀ q, o = .inl q → K (some (.int q.1)) q.2) ∧ (∀ q, o = .inr q → zW dscM l rm_X6_takesPlaces G X K q 79 [] [])) → zW dscM l rm_X6_takesPlaces G X K u 2 [(0, .ref (G.1 0)), (1, .int v1)] []) : ∀ (u : zS) (v1 : Int32) (o : (Int32 × zS) ⊕ (zS)), f_X6_takesPlaces_L2_B N rec u v1 = some o → ((∀ q, o = .inl q → K (some (.int q.1)) q.2) ∧ (∀ q, o = .inr q → zW dscM l rm_X6_takesPlaces G X K q 79 [] [])) → zW dscM l rm_X6_takesPlaces G X K u 2 [(0, .ref (G.1 0)), (1, .int v1)] [] := by
  intro u v1 o hf hk
  unfold f_X6_takesPlaces_L2_B at hf
  refine r_iload_n hC dX6_takesPlaces_2 1 rfl ?_
  refine r_bipush (v := 8) hC dX6_takesPlaces_3 (by decide) ?_
  refine r_icmp_ge (tgt := 79) hC dX6_takesPlaces_5 (by decide) (fun c1 => ?_) (fun c1 => ?_)
  · have hf := ite_t c1 hf
    have hf := Option.some.inj hf
    subst hf
    refine r_loc [] rfl ?_
    exact hk.2 _ rfl
  · have hf := ite_f c1 hf
    refine r_aload_n hC dX6_takesPlaces_8 0 rfl ?_
    obtain ⟨r2, er2, hf⟩ := ob_some hf
    refine r_cvi (As := []) (rest := []) hC (c_X6_peek er2) yv_X6_peek ml_RX6_117 dM_0 ⟨by decide, by decide, rfl, rfl⟩ rfl rfl (Nat.le_of_ble_eq_true rfl) dX6_takesPlaces_9 ?_
    refine r_istore_n (lv' := [(2, .int r2.1), (0, .ref (G.1 0)), (1, .int v1)]) hC dX6_takesPlaces_12 rfl (by decide) rfl ?_
    refine r_iload_n hC dX6_takesPlaces_13 0 rfl ?_
    refine r_bipush (v := 46) hC dX6_takesPlaces_14 (by decide) ?_
    refine r_icmp_eq (tgt := 27) hC dX6_takesPlaces_16 (by decide) (fun c3 => ?_) (fun c3 => ?_)
    · have hf := ite_t c3 hf
      refine r_loc [1, 2, 0] rfl ?_
      exact t_X6_takesPlaces_J27 hC hrec  r2.2 v1 r2.1 o hf hk
    · have hf := ite_f c3 hf
      refine r_iload_n hC dX6_takesPlaces_19 0 rfl ?_
      refine r_bipush (v := 42) hC dX6_takesPlaces_20 (by decide) ?_
      refine r_icmp_eq (tgt := 27) hC dX6_takesPlaces_22 (by decide) (fun c9 => ?_) (fun c9 => ?_)
      · have hf := ite_t c9 hf
        refine r_loc [1, 2, 0] rfl ?_
        exact t_X6_takesPlaces_J27 hC hrec  r2.2 v1 r2.1 o hf hk
      · have hf := ite_f c9 hf
        refine r_iconst (v := 0) hC dX6_takesPlaces_25 (by decide) ?_
        have hf := Option.some.inj hf
        subst hf
        exact r_zret hC rfl dX6_takesPlaces_26 (hk.1 _ rfl)
set_option maxHeartbeats 4000000 in
set_option maxRecDepth 100000 in
theorem t_X6_takesPlaces_L2 {l : Launch} {G : zG} {X : zX} {K : Option Value → zS → Prop} (hC : zC G X cX6_takesPlaces 3 RX6 (some .boolean)) {N : Nat} : ∀ (n : Nat) (u : zS) (v1 : Int32) (o : (Int32 × zS) ⊕ (zS)), f_X6_takesPlaces_L2 N n u v1 = some o → ((∀ q, o = .inl q → K (some (.int q.1)) q.2) ∧ (∀ q, o = .inr q → zW dscM l rm_X6_takesPlaces G X K q 79 [] [])) → zW dscM l rm_X6_takesPlaces G X K u 2 [(0, .ref (G.1 0)), (1, .int v1)] [] := by
  intro n
  induction n with
  | zero => intro u v1 o hf; cases hf
  | succ n ih => intro u v1 o hf hk; exact t_X6_takesPlaces_L2_B hC (rec := f_X6_takesPlaces_L2 N n) ih u v1 o hf hk
set_option maxHeartbeats 4000000 in
set_option maxRecDepth 100000 in
theorem t_X6_takesPlaces {l : Launch} {G : zG} {X : zX} {K : Option Value → zS → Prop} (hC : zC G X cX6_takesPlaces 3 RX6 (some .boolean)) {N : Nat} {u : zS} (o : Int32 × zS) (hf : f_X6_takesPlaces N u = some o) (hk : K (some (.int o.1)) o.2) : zW dscM l rm_X6_takesPlaces G X K u 0 [(0, .ref (G.1 0))] [] := by
  unfold f_X6_takesPlaces at hf
  refine r_iconst (v := 0) hC dX6_takesPlaces_0 (by decide) ?_
  refine r_istore_n (lv' := [(1, .int 0), (0, .ref (G.1 0))]) hC dX6_takesPlaces_1 rfl (by decide) rfl ?_
  refine r_loc [1, 0] rfl ?_
  rcases os_some hf with ⟨q11, eq10, hf⟩ | ⟨q10, eq10, hf⟩
  · have hf := Option.some.inj hf
    subst hf
    exact t_X6_takesPlaces_L2 hC N u 0 _ eq10 ⟨fun _ h9 => by cases h9; exact hk, fun _ h9 => by cases h9⟩
  refine t_X6_takesPlaces_L2 hC N u 0 _ eq10 ⟨fun _ h9 => (by cases h9), fun _ h9 => ?_⟩
  cases h9
  refine r_iconst (v := 1) hC dX6_takesPlaces_79 (by decide) ?_
  have hf := Option.some.inj hf
  subst hf
  exact r_zret hC rfl dX6_takesPlaces_80 hk
set_option maxHeartbeats 4000000 in
set_option maxRecDepth 100000 in
theorem c_X6_takesPlaces {l : Launch} {G : zG} {N : Nat} {u : zS} {r : Int32 × zS} (hf : f_X6_takesPlaces N u = some r) : zM l dscM yX6_takesPlaces cX6_takesPlaces 3 (some .boolean) rm_X6_takesPlaces G [.ref (G.1 0)] u (some (.int r.1)) r.2 := zM.of (by decide) (Nat.le_of_ble_eq_true rfl) (fun X hC => t_X6_takesPlaces hC r hf ⟨rfl, rfl⟩)
set_option maxHeartbeats 4000000 in
set_option maxRecDepth 100000 in
theorem t_X6_takesFigure {l : Launch} {G : zG} {X : zX} {K : Option Value → zS → Prop} (hC : zC G X cX6_takesFigure 3 RX6 (some .boolean)) {N : Nat} {u : zS} (o : Int32 × zS) (hf : f_X6_takesFigure N u = some o) (hk : K (some (.int o.1)) o.2) : zW dscM l rm_X6_takesFigure G X K u 0 [(0, .ref (G.1 0))] [] := by
  unfold f_X6_takesFigure at hf
  refine r_aload_n hC dX6_takesFigure_0 0 rfl ?_
  obtain ⟨r1, er1, hf⟩ := ob_some hf
  refine r_cvi (As := []) (rest := []) hC (c_X6_peek er1) yv_X6_peek ml_RX6_117 dM_0 ⟨by decide, by decide, rfl, rfl⟩ rfl rfl (Nat.le_of_ble_eq_true rfl) dX6_takesFigure_1 ?_
  refine r_csi (As := [.int r1.1]) (rest := []) hC c_X6_kindOf ys_X6_kindOf ml_RX6_120 ⟨by decide, by decide, rfl, rfl⟩ rfl rfl (Nat.le_of_ble_eq_true rfl) dX6_takesFigure_4 ?_
  refine r_topi (fun w2 ew2 => ?_)
  have hf := olet_at ew2 hf
  refine r_istore_n (lv' := [(1, .int w2), (0, .ref (G.1 0))]) hC dX6_takesFigure_7 rfl (by decide) rfl ?_
  refine r_iload_n hC dX6_takesFigure_8 0 rfl ?_
  refine r_if_ge (tgt := 14) hC dX6_takesFigure_9 (by decide) (fun c3 => ?_) (fun c3 => ?_)
  · have hf := ite_t c3 hf
    refine r_aload_n hC dX6_takesFigure_14 1 rfl ?_
    refine r_dup hC dX6_takesFigure_15 rfl ?_
    refine r_geti hC fd_RX6_114 dM_0 rfl dX6_takesFigure_16 ?_
    refine r_iconst (v := 1) hC dX6_takesFigure_19 (by decide) ?_
    refine r_iadd hC dX6_takesFigure_20 ?_
    refine r_puti hC fp_RX6_114 dM_0 rfl dX6_takesFigure_21 ?_
    refine r_tops (fun u4 eu4 => ?_)
    have hf := olet_at eu4 hf
    refine r_aload_n hC dX6_takesFigure_24 1 rfl ?_
    obtain ⟨r5, er5, hf⟩ := ob_some hf
    refine r_cvi (As := []) (rest := []) hC (c_X6_peek er5) yv_X6_peek ml_RX6_117 dM_0 ⟨by decide, by decide, rfl, rfl⟩ rfl rfl (Nat.le_of_ble_eq_true rfl) dX6_takesFigure_25 ?_
    refine r_bipush (v := 48) hC dX6_takesFigure_28 (by decide) ?_
    refine r_isub hC dX6_takesFigure_30 ?_
    refine r_istore_n (lv' := [(2, .int (r5.1 - 48)), (1, .int w2), (0, .ref (G.1 0))]) hC dX6_takesFigure_31 rfl (by decide) rfl ?_
    refine r_iload_n hC dX6_takesFigure_32 0 rfl ?_
    refine r_i2l hC dX6_takesFigure_33 ?_
    refine r_lconst (v := 0) hC dX6_takesFigure_34 (by decide) ?_
    refine r_ldc2 hC cn_RX6_50 dX6_takesFigure_35 ?_
    refine r_csi (As := [.long (Int32.toInt64 (r5.1 - 48)), .long 0, .long 7]) (rest := []) hC c_X6_in ys_X6_in ml_RX6_52 ⟨by decide, by decide, rfl, rfl⟩ rfl rfl (Nat.le_of_ble_eq_true rfl) dX6_takesFigure_38 ?_
    refine r_if_ne (tgt := 46) hC dX6_takesFigure_41 (by decide) (fun c6 => ?_) (fun c6 => ?_)
    · have hf := ite_f c6 hf
      refine r_aload_n hC dX6_takesFigure_46 2 rfl ?_
      refine r_dup hC dX6_takesFigure_47 rfl ?_
      refine r_geti hC fd_RX6_114 dM_0 rfl dX6_takesFigure_48 ?_
      refine r_iconst (v := 1) hC dX6_takesFigure_51 (by decide) ?_
      refine r_iadd hC dX6_takesFigure_52 ?_
      refine r_puti hC fp_RX6_114 dM_0 rfl dX6_takesFigure_53 ?_
      refine r_tops (fun u7 eu7 => ?_)
      have hf := olet_at eu7 hf
      refine r_aload_n hC dX6_takesFigure_56 2 rfl ?_
      refine r_getr hC fd_RX6_7 dM_0 rfl dX6_takesFigure_57 ?_
      refine r_sipush (v := 253) hC dX6_takesFigure_60 (by decide) ?_
      refine r_aload_n hC dX6_takesFigure_63 2 rfl ?_
      refine r_getr hC fd_RX6_7 dM_0 rfl dX6_takesFigure_64 ?_
      refine r_sipush (v := 241) hC dX6_takesFigure_67 (by decide) ?_
      refine r_ialdK (j := 241) hC dM_1 (inK (by decide)) dX6_takesFigure_70 ?_
      refine r_iadd hC dX6_takesFigure_71 ?_
      refine r_iload_n hC dX6_takesFigure_72 1 rfl ?_
      obtain ⟨g8, hf⟩ := og_in hf
      refine r_iast hC dM_1 g8 dX6_takesFigure_73 ?_
      refine r_tops (fun u9 eu9 => ?_)
      have hf := olet_at eu9 hf
      refine r_aload_n hC dX6_takesFigure_74 2 rfl ?_
      refine r_getr hC fd_RX6_7 dM_0 rfl dX6_takesFigure_75 ?_
      refine r_sipush (v := 258) hC dX6_takesFigure_78 (by decide) ?_
      refine r_aload_n hC dX6_takesFigure_81 2 rfl ?_
      refine r_getr hC fd_RX6_7 dM_0 rfl dX6_takesFigure_82 ?_
      refine r_sipush (v := 241) hC dX6_takesFigure_85 (by decide) ?_
      refine r_ialdK (j := 241) hC dM_1 (inK (by decide)) dX6_takesFigure_88 ?_
      refine r_iadd hC dX6_takesFigure_89 ?_
      refine r_iload_n hC dX6_takesFigure_90 0 rfl ?_
      obtain ⟨g10, hf⟩ := og_in hf
      refine r_iast hC dM_1 g10 dX6_takesFigure_91 ?_
      refine r_tops (fun u11 eu11 => ?_)
      have hf := olet_at eu11 hf
      refine r_aload_n hC dX6_takesFigure_92 2 rfl ?_
      refine r_getr hC fd_RX6_7 dM_0 rfl dX6_takesFigure_93 ?_
      refine r_sipush (v := 241) hC dX6_takesFigure_96 (by decide) ?_
      refine r_dup2 hC dX6_takesFigure_99 rfl rfl ?_
      refine r_ialdK (j := 241) hC dM_1 (inK (by decide)) dX6_takesFigure_100 ?_
      refine r_iconst (v := 1) hC dX6_takesFigure_101 (by decide) ?_
      refine r_iadd hC dX6_takesFigure_102 ?_
      refine r_iastK (j := 241) hC dM_1 (inK (by decide)) dX6_takesFigure_103 ?_
      refine r_tops (fun u12 eu12 => ?_)
      have hf := olet_at eu12 hf
      refine r_iconst (v := 1) hC dX6_takesFigure_104 (by decide) ?_
      have hf := Option.some.inj hf
      subst hf
      exact r_zret hC rfl dX6_takesFigure_105 hk
    · have hf := ite_t c6 hf
      refine r_iconst (v := 0) hC dX6_takesFigure_44 (by decide) ?_
      have hf := Option.some.inj hf
      subst hf
      exact r_zret hC rfl dX6_takesFigure_45 hk
  · have hf := ite_f c3 hf
    refine r_iconst (v := 0) hC dX6_takesFigure_12 (by decide) ?_
    have hf := Option.some.inj hf
    subst hf
    exact r_zret hC rfl dX6_takesFigure_13 hk
set_option maxHeartbeats 4000000 in
set_option maxRecDepth 100000 in
theorem c_X6_takesFigure {l : Launch} {G : zG} {N : Nat} {u : zS} {r : Int32 × zS} (hf : f_X6_takesFigure N u = some r) : zM l dscM yX6_takesFigure cX6_takesFigure 3 (some .boolean) rm_X6_takesFigure G [.ref (G.1 0)] u (some (.int r.1)) r.2 := zM.of (by decide) (Nat.le_of_ble_eq_true rfl) (fun X hC => t_X6_takesFigure hC r hf ⟨rfl, rfl⟩)
set_option maxHeartbeats 4000000 in
set_option maxRecDepth 100000 in
theorem t_X6_takesTune {l : Launch} {G : zG} {X : zX} {K : Option Value → zS → Prop} (hC : zC G X cX6_takesTune 2 RX6 (some .boolean)) {N : Nat} {u : zS} (o : Int32 × zS) (hf : f_X6_takesTune N u = some o) (hk : K (some (.int o.1)) o.2) : zW dscM l rm_X6_takesTune G X K u 0 [(0, .ref (G.1 0))] [] := by
  unfold f_X6_takesTune at hf
  refine r_aload_n hC dX6_takesTune_0 0 rfl ?_
  obtain ⟨r1, er1, hf⟩ := ob_some hf
  refine r_cvi (As := []) (rest := []) hC (c_X6_peek er1) yv_X6_peek ml_RX6_117 dM_0 ⟨by decide, by decide, rfl, rfl⟩ rfl rfl (Nat.le_of_ble_eq_true rfl) dX6_takesTune_1 ?_
  refine r_bipush (v := 48) hC dX6_takesTune_4 (by decide) ?_
  refine r_isub hC dX6_takesTune_6 ?_
  refine r_istore_n (lv' := [(1, .int (r1.1 - 48)), (0, .ref (G.1 0))]) hC dX6_takesTune_7 rfl (by decide) rfl ?_
  refine r_iload_n hC dX6_takesTune_8 0 rfl ?_
  refine r_i2l hC dX6_takesTune_9 ?_
  refine r_lconst (v := 0) hC dX6_takesTune_10 (by decide) ?_
  refine r_aload_n hC dX6_takesTune_11 1 rfl ?_
  refine r_getr hC fd_RX6_7 dM_0 rfl dX6_takesTune_12 ?_
  refine r_sipush (v := 241) hC dX6_takesTune_15 (by decide) ?_
  refine r_ialdK (j := 241) hC dM_1 (inK (by decide)) dX6_takesTune_18 ?_
  refine r_iconst (v := 1) hC dX6_takesTune_19 (by decide) ?_
  refine r_isub hC dX6_takesTune_20 ?_
  refine r_i2l hC dX6_takesTune_21 ?_
  refine r_csi (As := [.long (Int32.toInt64 (r1.1 - 48)), .long 0, .long (Int32.toInt64 ((r1.2.1 1 241) - 1))]) (rest := []) hC c_X6_in ys_X6_in ml_RX6_52 ⟨by decide, by decide, rfl, rfl⟩ rfl rfl (Nat.le_of_ble_eq_true rfl) dX6_takesTune_22 ?_
  refine r_if_ne (tgt := 30) hC dX6_takesTune_25 (by decide) (fun c2 => ?_) (fun c2 => ?_)
  · have hf := ite_f c2 hf
    refine r_aload_n hC dX6_takesTune_30 1 rfl ?_
    refine r_dup hC dX6_takesTune_31 rfl ?_
    refine r_geti hC fd_RX6_114 dM_0 rfl dX6_takesTune_32 ?_
    refine r_iconst (v := 1) hC dX6_takesTune_35 (by decide) ?_
    refine r_iadd hC dX6_takesTune_36 ?_
    refine r_puti hC fp_RX6_114 dM_0 rfl dX6_takesTune_37 ?_
    refine r_tops (fun u3 eu3 => ?_)
    have hf := olet_at eu3 hf
    refine r_aload_n hC dX6_takesTune_40 1 rfl ?_
    refine r_getr hC fd_RX6_7 dM_0 rfl dX6_takesTune_41 ?_
    refine r_sipush (v := 263) hC dX6_takesTune_44 (by decide) ?_
    refine r_aload_n hC dX6_takesTune_47 1 rfl ?_
    refine r_getr hC fd_RX6_7 dM_0 rfl dX6_takesTune_48 ?_
    refine r_sipush (v := 242) hC dX6_takesTune_51 (by decide) ?_
    refine r_ialdK (j := 242) hC dM_1 (inK (by decide)) dX6_takesTune_54 ?_
    refine r_iadd hC dX6_takesTune_55 ?_
    refine r_iload_n hC dX6_takesTune_56 0 rfl ?_
    obtain ⟨g4, hf⟩ := og_in hf
    refine r_iast hC dM_1 g4 dX6_takesTune_57 ?_
    refine r_tops (fun u5 eu5 => ?_)
    have hf := olet_at eu5 hf
    refine r_aload_n hC dX6_takesTune_58 1 rfl ?_
    refine r_getr hC fd_RX6_7 dM_0 rfl dX6_takesTune_59 ?_
    refine r_sipush (v := 242) hC dX6_takesTune_62 (by decide) ?_
    refine r_dup2 hC dX6_takesTune_65 rfl rfl ?_
    refine r_ialdK (j := 242) hC dM_1 (inK (by decide)) dX6_takesTune_66 ?_
    refine r_iconst (v := 1) hC dX6_takesTune_67 (by decide) ?_
    refine r_iadd hC dX6_takesTune_68 ?_
    refine r_iastK (j := 242) hC dM_1 (inK (by decide)) dX6_takesTune_69 ?_
    refine r_tops (fun u6 eu6 => ?_)
    have hf := olet_at eu6 hf
    refine r_iconst (v := 1) hC dX6_takesTune_70 (by decide) ?_
    have hf := Option.some.inj hf
    subst hf
    exact r_zret hC rfl dX6_takesTune_71 hk
  · have hf := ite_t c2 hf
    refine r_iconst (v := 0) hC dX6_takesTune_28 (by decide) ?_
    have hf := Option.some.inj hf
    subst hf
    exact r_zret hC rfl dX6_takesTune_29 hk
set_option maxHeartbeats 4000000 in
set_option maxRecDepth 100000 in
theorem c_X6_takesTune {l : Launch} {G : zG} {N : Nat} {u : zS} {r : Int32 × zS} (hf : f_X6_takesTune N u = some r) : zM l dscM yX6_takesTune cX6_takesTune 2 (some .boolean) rm_X6_takesTune G [.ref (G.1 0)] u (some (.int r.1)) r.2 := zM.of (by decide) (Nat.le_of_ble_eq_true rfl) (fun X hC => t_X6_takesTune hC r hf ⟨rfl, rfl⟩)
set_option maxHeartbeats 4000000 in
set_option maxRecDepth 100000 in
theorem t_X6_takesRing_L18_B {l : Launch} {G : zG} {X : zX} {K : Option Value → zS → Prop} (hC : zC G X cX6_takesRing 1 RX6 (some .boolean)) {N : Nat} {rec : zS → Option ((Int32 × zS) ⊕ (zS))} (hrec : ∀ (u : zS) (o : (Int32 × zS) ⊕ (zS)), rec u = some o → ((∀ q, o = .inl q → K (some (.int q.1)) q.2) ∧ (∀ q, o = .inr q → zW dscM l rm_X6_takesRing G X K q 48 [(0, .ref (G.1 0))] [])) → zW dscM l rm_X6_takesRing G X K u 18 [(0, .ref (G.1 0))] []) : ∀ (u : zS) (o : (Int32 × zS) ⊕ (zS)), f_X6_takesRing_L18_B N rec u = some o → ((∀ q, o = .inl q → K (some (.int q.1)) q.2) ∧ (∀ q, o = .inr q → zW dscM l rm_X6_takesRing G X K q 48 [(0, .ref (G.1 0))] [])) → zW dscM l rm_X6_takesRing G X K u 18 [(0, .ref (G.1 0))] [] := by
  intro u o hf hk
  unfold f_X6_takesRing_L18_B at hf
  refine r_aload_n hC dX6_takesRing_18 0 rfl ?_
  obtain ⟨r7, er7, hf⟩ := ob_some hf
  refine r_cvi (As := []) (rest := []) hC (c_X6_takesFigure er7) yv_X6_takesFigure ml_RX6_130 dM_0 ⟨by decide, by decide, rfl, rfl⟩ rfl rfl (Nat.le_of_ble_eq_true rfl) dX6_takesRing_19 ?_
  refine r_if_ne (tgt := 27) hC dX6_takesRing_22 (by decide) (fun c8 => ?_) (fun c8 => ?_)
  · have hf := ite_f c8 hf
    refine r_aload_n hC dX6_takesRing_27 0 rfl ?_
    refine r_getr hC fd_RX6_7 dM_0 rfl dX6_takesRing_28 ?_
    refine r_sipush (v := 241) hC dX6_takesRing_31 (by decide) ?_
    refine r_ialdK (j := 241) hC dM_1 (inK (by decide)) dX6_takesRing_34 ?_
    refine r_iconst (v := 5) hC dX6_takesRing_35 (by decide) ?_
    refine r_icmp_ge (tgt := 48) hC dX6_takesRing_36 (by decide) (fun c9 => ?_) (fun c9 => ?_)
    · have hf := ite_t c9 hf
      have hf := Option.some.inj hf
      subst hf
      exact hk.2 _ rfl
    · have hf := ite_f c9 hf
      refine r_aload_n hC dX6_takesRing_39 0 rfl ?_
      refine r_bipush (v := 44) hC dX6_takesRing_40 (by decide) ?_
      obtain ⟨r10, er10, hf⟩ := ob_some hf
      refine r_cvi (As := [.int 44]) (rest := []) hC (c_X6_takes er10) yv_X6_takes ml_RX6_127 dM_0 ⟨by decide, by decide, rfl, rfl⟩ rfl rfl (Nat.le_of_ble_eq_true rfl) dX6_takesRing_42 ?_
      refine r_if_ne (tgt := 18) hC dX6_takesRing_45 (by decide) (fun c11 => ?_) (fun c11 => ?_)
      · have hf := ite_f c11 hf
        exact hrec r10.2 o hf hk
      · have hf := ite_t c11 hf
        have hf := Option.some.inj hf
        subst hf
        exact hk.2 _ rfl
  · have hf := ite_t c8 hf
    refine r_iconst (v := 0) hC dX6_takesRing_25 (by decide) ?_
    have hf := Option.some.inj hf
    subst hf
    exact r_zret hC rfl dX6_takesRing_26 (hk.1 _ rfl)
set_option maxHeartbeats 4000000 in
set_option maxRecDepth 100000 in
theorem t_X6_takesRing_L18 {l : Launch} {G : zG} {X : zX} {K : Option Value → zS → Prop} (hC : zC G X cX6_takesRing 1 RX6 (some .boolean)) {N : Nat} : ∀ (n : Nat) (u : zS) (o : (Int32 × zS) ⊕ (zS)), f_X6_takesRing_L18 N n u = some o → ((∀ q, o = .inl q → K (some (.int q.1)) q.2) ∧ (∀ q, o = .inr q → zW dscM l rm_X6_takesRing G X K q 48 [(0, .ref (G.1 0))] [])) → zW dscM l rm_X6_takesRing G X K u 18 [(0, .ref (G.1 0))] [] := by
  intro n
  induction n with
  | zero => intro u o hf; cases hf
  | succ n ih => intro u o hf hk; exact t_X6_takesRing_L18_B hC (rec := f_X6_takesRing_L18 N n) ih u o hf hk
set_option maxHeartbeats 4000000 in
set_option maxRecDepth 100000 in
theorem t_X6_takesRing_L57_B {l : Launch} {G : zG} {X : zX} {K : Option Value → zS → Prop} (hC : zC G X cX6_takesRing 1 RX6 (some .boolean)) {N : Nat} {rec : zS → Option ((Int32 × zS) ⊕ (zS))} (hrec : ∀ (u : zS) (o : (Int32 × zS) ⊕ (zS)), rec u = some o → ((∀ q, o = .inl q → K (some (.int q.1)) q.2) ∧ (∀ q, o = .inr q → zW dscM l rm_X6_takesRing G X K q 86 [(0, .ref (G.1 0))] [])) → zW dscM l rm_X6_takesRing G X K u 57 [(0, .ref (G.1 0))] []) : ∀ (u : zS) (o : (Int32 × zS) ⊕ (zS)), f_X6_takesRing_L57_B N rec u = some o → ((∀ q, o = .inl q → K (some (.int q.1)) q.2) ∧ (∀ q, o = .inr q → zW dscM l rm_X6_takesRing G X K q 86 [(0, .ref (G.1 0))] [])) → zW dscM l rm_X6_takesRing G X K u 57 [(0, .ref (G.1 0))] [] := by
  intro u o hf hk
  unfold f_X6_takesRing_L57_B at hf
  refine r_aload_n hC dX6_takesRing_57 0 rfl ?_
  obtain ⟨r18, er18, hf⟩ := ob_some hf
  refine r_cvi (As := []) (rest := []) hC (c_X6_takesTune er18) yv_X6_takesTune ml_RX6_133 dM_0 ⟨by decide, by decide, rfl, rfl⟩ rfl rfl (Nat.le_of_ble_eq_true rfl) dX6_takesRing_58 ?_
  refine r_if_ne (tgt := 66) hC dX6_takesRing_61 (by decide) (fun c19 => ?_) (fun c19 => ?_)
  · have hf := ite_f c19 hf
    refine r_aload_n hC dX6_takesRing_66 0 rfl ?_
    refine r_getr hC fd_RX6_7 dM_0 rfl dX6_takesRing_67 ?_
    refine r_sipush (v := 242) hC dX6_takesRing_70 (by decide) ?_
    refine r_ialdK (j := 242) hC dM_1 (inK (by decide)) dX6_takesRing_73 ?_
    refine r_bipush (v := 16) hC dX6_takesRing_74 (by decide) ?_
    refine r_icmp_ge (tgt := 86) hC dX6_takesRing_76 (by decide) (fun c20 => ?_) (fun c20 => ?_)
    · have hf := ite_t c20 hf
      have hf := Option.some.inj hf
      subst hf
      exact hk.2 _ rfl
    · have hf := ite_f c20 hf
      refine r_aload_n hC dX6_takesRing_79 0 rfl ?_
      obtain ⟨r21, er21, hf⟩ := ob_some hf
      refine r_cvi (As := []) (rest := []) hC (c_X6_peek er21) yv_X6_peek ml_RX6_117 dM_0 ⟨by decide, by decide, rfl, rfl⟩ rfl rfl (Nat.le_of_ble_eq_true rfl) dX6_takesRing_80 ?_
      refine r_if_ne (tgt := 57) hC dX6_takesRing_83 (by decide) (fun c22 => ?_) (fun c22 => ?_)
      · have hf := ite_f c22 hf
        exact hrec r21.2 o hf hk
      · have hf := ite_t c22 hf
        have hf := Option.some.inj hf
        subst hf
        exact hk.2 _ rfl
  · have hf := ite_t c19 hf
    refine r_iconst (v := 0) hC dX6_takesRing_64 (by decide) ?_
    have hf := Option.some.inj hf
    subst hf
    exact r_zret hC rfl dX6_takesRing_65 (hk.1 _ rfl)
set_option maxHeartbeats 4000000 in
set_option maxRecDepth 100000 in
theorem t_X6_takesRing_L57 {l : Launch} {G : zG} {X : zX} {K : Option Value → zS → Prop} (hC : zC G X cX6_takesRing 1 RX6 (some .boolean)) {N : Nat} : ∀ (n : Nat) (u : zS) (o : (Int32 × zS) ⊕ (zS)), f_X6_takesRing_L57 N n u = some o → ((∀ q, o = .inl q → K (some (.int q.1)) q.2) ∧ (∀ q, o = .inr q → zW dscM l rm_X6_takesRing G X K q 86 [(0, .ref (G.1 0))] [])) → zW dscM l rm_X6_takesRing G X K u 57 [(0, .ref (G.1 0))] [] := by
  intro n
  induction n with
  | zero => intro u o hf; cases hf
  | succ n ih => intro u o hf hk; exact t_X6_takesRing_L57_B hC (rec := f_X6_takesRing_L57 N n) ih u o hf hk
set_option maxHeartbeats 4000000 in
set_option maxRecDepth 100000 in
theorem t_X6_takesRing_J48 {l : Launch} {G : zG} {X : zX} {K : Option Value → zS → Prop} (hC : zC G X cX6_takesRing 1 RX6 (some .boolean)) {N : Nat} : ∀ (u : zS) (o : Int32 × zS), f_X6_takesRing_J48 N u = some o → K (some (.int o.1)) o.2 → zW dscM l rm_X6_takesRing G X K u 48 [(0, .ref (G.1 0))] [] := by
  intro u o hf hk
  unfold f_X6_takesRing_J48 at hf
  refine r_aload_n hC dX6_takesRing_48 0 rfl ?_
  refine r_bipush (v := 58) hC dX6_takesRing_49 (by decide) ?_
  obtain ⟨r14, er14, hf⟩ := ob_some hf
  refine r_cvi (As := [.int 58]) (rest := []) hC (c_X6_takes er14) yv_X6_takes ml_RX6_127 dM_0 ⟨by decide, by decide, rfl, rfl⟩ rfl rfl (Nat.le_of_ble_eq_true rfl) dX6_takesRing_51 ?_
  refine r_if_eq (tgt := 86) hC dX6_takesRing_54 (by decide) (fun c15 => ?_) (fun c15 => ?_)
  · have hf := ite_t c15 hf
    refine r_aload_n hC dX6_takesRing_86 0 rfl ?_
    obtain ⟨r16, er16, hf⟩ := ob_some hf
    refine r_cvi (As := []) (rest := []) hC (c_X6_peek er16) yv_X6_peek ml_RX6_117 dM_0 ⟨by decide, by decide, rfl, rfl⟩ rfl rfl (Nat.le_of_ble_eq_true rfl) dX6_takesRing_87 ?_
    refine r_if_ne (tgt := 97) hC dX6_takesRing_90 (by decide) (fun c17 => ?_) (fun c17 => ?_)
    · have hf := ite_f c17 hf
      refine r_iconst (v := 0) hC dX6_takesRing_97 (by decide) ?_
      have hf := Option.some.inj hf
      subst hf
      exact r_zret hC rfl dX6_takesRing_98 hk
    · have hf := ite_t c17 hf
      refine r_iconst (v := 1) hC dX6_takesRing_93 (by decide) ?_
      refine r_goto (tgt := 98) hC dX6_takesRing_94 (by decide) ?_
      have hf := Option.some.inj hf
      subst hf
      exact r_zret hC rfl dX6_takesRing_98 hk
  · have hf := ite_f c15 hf
    rcases os_some hf with ⟨q24, eq23, hf⟩ | ⟨q23, eq23, hf⟩
    · have hf := Option.some.inj hf
      subst hf
      exact t_X6_takesRing_L57 hC N r14.2 _ eq23 ⟨fun _ h9 => by cases h9; exact hk, fun _ h9 => by cases h9⟩
    refine t_X6_takesRing_L57 hC N r14.2 _ eq23 ⟨fun _ h9 => (by cases h9), fun _ h9 => ?_⟩
    cases h9
    refine r_aload_n hC dX6_takesRing_86 0 rfl ?_
    obtain ⟨r25, er25, hf⟩ := ob_some hf
    refine r_cvi (As := []) (rest := []) hC (c_X6_peek er25) yv_X6_peek ml_RX6_117 dM_0 ⟨by decide, by decide, rfl, rfl⟩ rfl rfl (Nat.le_of_ble_eq_true rfl) dX6_takesRing_87 ?_
    refine r_if_ne (tgt := 97) hC dX6_takesRing_90 (by decide) (fun c26 => ?_) (fun c26 => ?_)
    · have hf := ite_f c26 hf
      refine r_iconst (v := 0) hC dX6_takesRing_97 (by decide) ?_
      have hf := Option.some.inj hf
      subst hf
      exact r_zret hC rfl dX6_takesRing_98 hk
    · have hf := ite_t c26 hf
      refine r_iconst (v := 1) hC dX6_takesRing_93 (by decide) ?_
      refine r_goto (tgt := 98) hC dX6_takesRing_94 (by decide) ?_
      have hf := Option.some.inj hf
      subst hf
      exact r_zret hC rfl dX6_takesRing_98 hk
set_option maxHeartbeats 4000000 in
set_option maxRecDepth 100000 in
theorem t_X6_takesRing {l : Launch} {G : zG} {X : zX} {K : Option Value → zS → Prop} (hC : zC G X cX6_takesRing 1 RX6 (some .boolean)) {N : Nat} {u : zS} (o : Int32 × zS) (hf : f_X6_takesRing N u = some o) (hk : K (some (.int o.1)) o.2) : zW dscM l rm_X6_takesRing G X K u 0 [(0, .ref (G.1 0))] [] := by
  unfold f_X6_takesRing at hf
  refine r_aload_n hC dX6_takesRing_0 0 rfl ?_
  obtain ⟨r1, er1, hf⟩ := ob_some hf
  refine r_cvi (As := []) (rest := []) hC (c_X6_takesPlaces er1) yv_X6_takesPlaces ml_RX6_123 dM_0 ⟨by decide, by decide, rfl, rfl⟩ rfl rfl (Nat.le_of_ble_eq_true rfl) dX6_takesRing_1 ?_
  refine r_if_ne (tgt := 9) hC dX6_takesRing_4 (by decide) (fun c2 => ?_) (fun c2 => ?_)
  · have hf := ite_f c2 hf
    refine r_aload_n hC dX6_takesRing_9 0 rfl ?_
    refine r_bipush (v := 59) hC dX6_takesRing_10 (by decide) ?_
    obtain ⟨r3, er3, hf⟩ := ob_some hf
    refine r_cvi (As := [.int 59]) (rest := []) hC (c_X6_takes er3) yv_X6_takes ml_RX6_127 dM_0 ⟨by decide, by decide, rfl, rfl⟩ rfl rfl (Nat.le_of_ble_eq_true rfl) dX6_takesRing_12 ?_
    refine r_if_eq (tgt := 86) hC dX6_takesRing_15 (by decide) (fun c4 => ?_) (fun c4 => ?_)
    · have hf := ite_t c4 hf
      refine r_aload_n hC dX6_takesRing_86 0 rfl ?_
      obtain ⟨r5, er5, hf⟩ := ob_some hf
      refine r_cvi (As := []) (rest := []) hC (c_X6_peek er5) yv_X6_peek ml_RX6_117 dM_0 ⟨by decide, by decide, rfl, rfl⟩ rfl rfl (Nat.le_of_ble_eq_true rfl) dX6_takesRing_87 ?_
      refine r_if_ne (tgt := 97) hC dX6_takesRing_90 (by decide) (fun c6 => ?_) (fun c6 => ?_)
      · have hf := ite_f c6 hf
        refine r_iconst (v := 0) hC dX6_takesRing_97 (by decide) ?_
        have hf := Option.some.inj hf
        subst hf
        exact r_zret hC rfl dX6_takesRing_98 hk
      · have hf := ite_t c6 hf
        refine r_iconst (v := 1) hC dX6_takesRing_93 (by decide) ?_
        refine r_goto (tgt := 98) hC dX6_takesRing_94 (by decide) ?_
        have hf := Option.some.inj hf
        subst hf
        exact r_zret hC rfl dX6_takesRing_98 hk
    · have hf := ite_f c4 hf
      rcases os_some hf with ⟨q13, eq12, hf⟩ | ⟨q12, eq12, hf⟩
      · have hf := Option.some.inj hf
        subst hf
        exact t_X6_takesRing_L18 hC N r3.2 _ eq12 ⟨fun _ h9 => by cases h9; exact hk, fun _ h9 => by cases h9⟩
      refine t_X6_takesRing_L18 hC N r3.2 _ eq12 ⟨fun _ h9 => (by cases h9), fun _ h9 => ?_⟩
      cases h9
      exact t_X6_takesRing_J48 hC  q12 o hf hk
  · have hf := ite_t c2 hf
    refine r_iconst (v := 0) hC dX6_takesRing_7 (by decide) ?_
    have hf := Option.some.inj hf
    subst hf
    exact r_zret hC rfl dX6_takesRing_8 hk
set_option maxHeartbeats 4000000 in
set_option maxRecDepth 100000 in
theorem c_X6_takesRing {l : Launch} {G : zG} {N : Nat} {u : zS} {r : Int32 × zS} (hf : f_X6_takesRing N u = some r) : zM l dscM yX6_takesRing cX6_takesRing 1 (some .boolean) rm_X6_takesRing G [.ref (G.1 0)] u (some (.int r.1)) r.2 := zM.of (by decide) (Nat.le_of_ble_eq_true rfl) (fun X hC => t_X6_takesRing hC r hf ⟨rfl, rfl⟩)
set_option maxHeartbeats 4000000 in
set_option maxRecDepth 100000 in
theorem t_X6_ring_L2_B {l : Launch} {G : zG} {X : zX} {K : Option Value → zS → Prop} (hC : zC G X cX6_ring 2 RX6 (some .int)) {N : Nat} {rec : zS → Int32 → Option (zS)} (hrec : ∀ (u : zS) (v1 : Int32) (o : zS), rec u v1 = some o → zW dscM l rm_X6_ring G X K o 25 [(0, .ref (G.1 0))] [] → zW dscM l rm_X6_ring G X K u 2 [(0, .ref (G.1 0)), (1, .int v1)] []) : ∀ (u : zS) (v1 : Int32) (o : zS), f_X6_ring_L2_B N rec u v1 = some o → zW dscM l rm_X6_ring G X K o 25 [(0, .ref (G.1 0))] [] → zW dscM l rm_X6_ring G X K u 2 [(0, .ref (G.1 0)), (1, .int v1)] [] := by
  intro u v1 o hf hk
  unfold f_X6_ring_L2_B at hf
  refine r_iload_n hC dX6_ring_2 1 rfl ?_
  refine r_bipush (v := 39) hC dX6_ring_3 (by decide) ?_
  refine r_icmp_ge (tgt := 25) hC dX6_ring_5 (by decide) (fun c1 => ?_) (fun c1 => ?_)
  · have hf := ite_t c1 hf
    have hf := Option.some.inj hf
    subst hf
    refine r_loc [0] rfl ?_
    exact hk
  · have hf := ite_f c1 hf
    refine r_aload_n hC dX6_ring_8 0 rfl ?_
    refine r_getr hC fd_RX6_7 dM_0 rfl dX6_ring_9 ?_
    refine r_sipush (v := 240) hC dX6_ring_12 (by decide) ?_
    refine r_iload_n hC dX6_ring_15 1 rfl ?_
    refine r_iadd hC dX6_ring_16 ?_
    refine r_iconst (v := 0) hC dX6_ring_17 (by decide) ?_
    obtain ⟨g2, hf⟩ := og_in hf
    refine r_iast hC dM_1 g2 dX6_ring_18 ?_
    refine r_tops (fun u3 eu3 => ?_)
    have hf := olet_at eu3 hf
    refine r_iinc (v := 1) (lv' := [(1, .int (v1 + 1)), (0, .ref (G.1 0))]) hC dX6_ring_19 1 rfl (by decide) (by decide) rfl ?_
    refine r_goto (tgt := 2) hC dX6_ring_22 (by decide) ?_
    refine r_loc [1, 0] rfl ?_
    exact hrec u3 (v1 + 1) o hf hk
set_option maxHeartbeats 4000000 in
set_option maxRecDepth 100000 in
theorem t_X6_ring_L2 {l : Launch} {G : zG} {X : zX} {K : Option Value → zS → Prop} (hC : zC G X cX6_ring 2 RX6 (some .int)) {N : Nat} : ∀ (n : Nat) (u : zS) (v1 : Int32) (o : zS), f_X6_ring_L2 N n u v1 = some o → zW dscM l rm_X6_ring G X K o 25 [(0, .ref (G.1 0))] [] → zW dscM l rm_X6_ring G X K u 2 [(0, .ref (G.1 0)), (1, .int v1)] [] := by
  intro n
  induction n with
  | zero => intro u v1 o hf; cases hf
  | succ n ih => intro u v1 o hf hk; exact t_X6_ring_L2_B hC (rec := f_X6_ring_L2 N n) ih u v1 o hf hk
set_option maxHeartbeats 4000000 in
set_option maxRecDepth 100000 in
theorem t_X6_ring_L27_B {l : Launch} {G : zG} {X : zX} {K : Option Value → zS → Prop} (hC : zC G X cX6_ring 2 RX6 (some .int)) {N : Nat} {rec : zS → Int32 → Option (zS)} (hrec : ∀ (u : zS) (v1 : Int32) (o : zS), rec u v1 = some o → zW dscM l rm_X6_ring G X K o 51 [(0, .ref (G.1 0))] [] → zW dscM l rm_X6_ring G X K u 27 [(0, .ref (G.1 0)), (1, .int v1)] []) : ∀ (u : zS) (v1 : Int32) (o : zS), f_X6_ring_L27_B N rec u v1 = some o → zW dscM l rm_X6_ring G X K o 51 [(0, .ref (G.1 0))] [] → zW dscM l rm_X6_ring G X K u 27 [(0, .ref (G.1 0)), (1, .int v1)] [] := by
  intro u v1 o hf hk
  unfold f_X6_ring_L27_B at hf
  refine r_iload_n hC dX6_ring_27 1 rfl ?_
  refine r_bipush (v := 8) hC dX6_ring_28 (by decide) ?_
  refine r_icmp_ge (tgt := 51) hC dX6_ring_30 (by decide) (fun c5 => ?_) (fun c5 => ?_)
  · have hf := ite_t c5 hf
    have hf := Option.some.inj hf
    subst hf
    refine r_loc [0] rfl ?_
    exact hk
  · have hf := ite_f c5 hf
    refine r_aload_n hC dX6_ring_33 0 rfl ?_
    refine r_getr hC fd_RX6_7 dM_0 rfl dX6_ring_34 ?_
    refine r_sipush (v := 245) hC dX6_ring_37 (by decide) ?_
    refine r_iload_n hC dX6_ring_40 1 rfl ?_
    refine r_iadd hC dX6_ring_41 ?_
    refine r_bipush (v := (-4)) hC dX6_ring_42 (by decide) ?_
    obtain ⟨g6, hf⟩ := og_in hf
    refine r_iast hC dM_1 g6 dX6_ring_44 ?_
    refine r_tops (fun u7 eu7 => ?_)
    have hf := olet_at eu7 hf
    refine r_iinc (v := 1) (lv' := [(1, .int (v1 + 1)), (0, .ref (G.1 0))]) hC dX6_ring_45 1 rfl (by decide) (by decide) rfl ?_
    refine r_goto (tgt := 27) hC dX6_ring_48 (by decide) ?_
    refine r_loc [1, 0] rfl ?_
    exact hrec u7 (v1 + 1) o hf hk
set_option maxHeartbeats 4000000 in
set_option maxRecDepth 100000 in
theorem t_X6_ring_L27 {l : Launch} {G : zG} {X : zX} {K : Option Value → zS → Prop} (hC : zC G X cX6_ring 2 RX6 (some .int)) {N : Nat} : ∀ (n : Nat) (u : zS) (v1 : Int32) (o : zS), f_X6_ring_L27 N n u v1 = some o → zW dscM l rm_X6_ring G X K o 51 [(0, .ref (G.1 0))] [] → zW dscM l rm_X6_ring G X K u 27 [(0, .ref (G.1 0)), (1, .int v1)] [] := by
  intro n
  induction n with
  | zero => intro u v1 o hf; cases hf
  | succ n ih => intro u v1 o hf hk; exact t_X6_ring_L27_B hC (rec := f_X6_ring_L27 N n) ih u v1 o hf hk
set_option maxHeartbeats 4000000 in
set_option maxRecDepth 100000 in
theorem t_X6_ring {l : Launch} {G : zG} {X : zX} {K : Option Value → zS → Prop} (hC : zC G X cX6_ring 2 RX6 (some .int)) {N : Nat} {u : zS} (o : Int32 × zS) (hf : f_X6_ring N u = some o) (hk : K (some (.int o.1)) o.2) : zW dscM l rm_X6_ring G X K u 0 [(0, .ref (G.1 0))] [] := by
  unfold f_X6_ring at hf
  refine r_iconst (v := 0) hC dX6_ring_0 (by decide) ?_
  refine r_istore_n (lv' := [(1, .int 0), (0, .ref (G.1 0))]) hC dX6_ring_1 rfl (by decide) rfl ?_
  refine r_loc [1, 0] rfl ?_
  obtain ⟨q4, eq4, hf⟩ := ob_some hf
  refine t_X6_ring_L2 hC N u 0 q4 eq4 ?_
  refine r_iconst (v := 0) hC dX6_ring_25 (by decide) ?_
  refine r_istore_n (lv' := [(1, .int 0), (0, .ref (G.1 0))]) hC dX6_ring_26 rfl (by decide) rfl ?_
  refine r_loc [1, 0] rfl ?_
  obtain ⟨q8, eq8, hf⟩ := ob_some hf
  refine t_X6_ring_L27 hC N q4 0 q8 eq8 ?_
  refine r_aload_n hC dX6_ring_51 0 rfl ?_
  refine r_getr hC fd_RX6_7 dM_0 rfl dX6_ring_52 ?_
  refine r_sipush (v := 244) hC dX6_ring_55 (by decide) ?_
  refine r_aload_n hC dX6_ring_58 0 rfl ?_
  refine r_getr hC fd_RX6_7 dM_0 rfl dX6_ring_59 ?_
  refine r_iconst (v := 4) hC dX6_ring_62 (by decide) ?_
  refine r_ialdK (j := 4) hC dM_1 (inK (by decide)) dX6_ring_63 ?_
  refine r_iastK (j := 244) hC dM_1 (inK (by decide)) dX6_ring_64 ?_
  refine r_tops (fun u9 eu9 => ?_)
  have hf := olet_at eu9 hf
  refine r_aload_n hC dX6_ring_65 0 rfl ?_
  refine r_iconst (v := 0) hC dX6_ring_66 (by decide) ?_
  refine r_puti hC fp_RX6_114 dM_0 rfl dX6_ring_67 ?_
  refine r_tops (fun u10 eu10 => ?_)
  have hf := olet_at eu10 hf
  refine r_aload_n hC dX6_ring_70 0 rfl ?_
  obtain ⟨r11, er11, hf⟩ := ob_some hf
  refine r_cvi (As := []) (rest := []) hC (c_X6_takesRing er11) yv_X6_takesRing ml_RX6_136 dM_0 ⟨by decide, by decide, rfl, rfl⟩ rfl rfl (Nat.le_of_ble_eq_true rfl) dX6_ring_71 ?_
  refine r_istore_n (lv' := [(1, .int r11.1), (0, .ref (G.1 0))]) hC dX6_ring_74 rfl (by decide) rfl ?_
  refine r_aload_n hC dX6_ring_75 1 rfl ?_
  refine r_iconst (v := 0) hC dX6_ring_76 (by decide) ?_
  refine r_puti hC fp_RX6_110 dM_0 rfl dX6_ring_77 ?_
  refine r_tops (fun u12 eu12 => ?_)
  have hf := olet_at eu12 hf
  refine r_iload_n hC dX6_ring_80 0 rfl ?_
  refine r_if_ne (tgt := 92) hC dX6_ring_81 (by decide) (fun c13 => ?_) (fun c13 => ?_)
  · have hf := ite_f c13 hf
    refine r_aload_n hC dX6_ring_92 1 rfl ?_
    refine r_sipush (v := 240) hC dX6_ring_93 (by decide) ?_
    refine r_iconst (v := 0) hC dX6_ring_96 (by decide) ?_
    refine r_bipush (v := 39) hC dX6_ring_97 (by decide) ?_
    obtain ⟨r14, er14, hf⟩ := ob_some hf
    refine r_cvv (As := [.int 240, .int 0, .int 39]) (rest := []) hC (c_X6_bring er14) yv_X6_bring ml_RX6_139 dM_0 ⟨by decide, by decide, rfl, rfl⟩ rfl rfl (Nat.le_of_ble_eq_true rfl) dX6_ring_99 ?_
    refine r_aload_n hC dX6_ring_102 1 rfl ?_
    refine r_getr hC fd_RX6_7 dM_0 rfl dX6_ring_103 ?_
    refine r_bipush (v := 39) hC dX6_ring_106 (by decide) ?_
    refine r_iconst (v := 0) hC dX6_ring_108 (by decide) ?_
    refine r_iastK (j := 39) hC dM_1 (inK (by decide)) dX6_ring_109 ?_
    refine r_tops (fun u15 eu15 => ?_)
    have hf := olet_at eu15 hf
    refine r_aload_n hC dX6_ring_110 1 rfl ?_
    refine r_getr hC fd_RX6_7 dM_0 rfl dX6_ring_111 ?_
    refine r_iconst (v := 0) hC dX6_ring_114 (by decide) ?_
    refine r_ialdK (j := 0) hC dM_1 (inK (by decide)) dX6_ring_115 ?_
    have hf := Option.some.inj hf
    subst hf
    exact r_iret hC dX6_ring_116 hk
  · have hf := ite_t c13 hf
    refine r_bipush (v := (-20)) hC dX6_ring_84 (by decide) ?_
    refine r_aload_n hC dX6_ring_86 1 rfl ?_
    refine r_geti hC fd_RX6_114 dM_0 rfl dX6_ring_87 ?_
    refine r_isub hC dX6_ring_90 ?_
    have hf := Option.some.inj hf
    subst hf
    exact r_iret hC dX6_ring_91 hk
set_option maxHeartbeats 4000000 in
set_option maxRecDepth 100000 in
theorem c_X6_ring {l : Launch} {G : zG} {N : Nat} {u : zS} {r : Int32 × zS} (hf : f_X6_ring N u = some r) : zM l dscM yX6_ring cX6_ring 2 (some .int) rm_X6_ring G [.ref (G.1 0)] u (some (.int r.1)) r.2 := zM.of (by decide) (Nat.le_of_ble_eq_true rfl) (fun X hC => t_X6_ring hC r hf ⟨rfl, rfl⟩)
set_option maxHeartbeats 4000000 in
set_option maxRecDepth 100000 in
theorem t_X6_goneOnes_L4_B {l : Launch} {G : zG} {X : zX} {K : Option Value → zS → Prop} (hC : zC G X cX6_goneOnes 3 RX6 (some .int)) {N : Nat} {u : zS} {rec : Int32 → Int32 → Option (Int32)} (hrec : ∀ (v1 : Int32) (v2 : Int32) (o : Int32), rec v1 v2 = some o → zW dscM l rm_X6_goneOnes G X K u 43 [(1, .int o)] [] → zW dscM l rm_X6_goneOnes G X K u 4 [(0, .ref (G.1 0)), (1, .int v1), (2, .int v2)] []) : ∀ (v1 : Int32) (v2 : Int32) (o : Int32), f_X6_goneOnes_L4_B N u rec v1 v2 = some o → zW dscM l rm_X6_goneOnes G X K u 43 [(1, .int o)] [] → zW dscM l rm_X6_goneOnes G X K u 4 [(0, .ref (G.1 0)), (1, .int v1), (2, .int v2)] [] := by
  intro v1 v2 o hf hk
  unfold f_X6_goneOnes_L4_B at hf
  refine r_iload_n hC dX6_goneOnes_4 2 rfl ?_
  refine r_aload_n hC dX6_goneOnes_5 0 rfl ?_
  refine r_getr hC fd_RX6_7 dM_0 rfl dX6_goneOnes_6 ?_
  refine r_iconst (v := 0) hC dX6_goneOnes_9 (by decide) ?_
  refine r_ialdK (j := 0) hC dM_1 (inK (by decide)) dX6_goneOnes_10 ?_
  refine r_icmp_ge (tgt := 43) hC dX6_goneOnes_11 (by decide) (fun c1 => ?_) (fun c1 => ?_)
  · have hf := ite_t c1 hf
    have hf := Option.some.inj hf
    subst hf
    refine r_loc [1] rfl ?_
    exact hk
  · have hf := ite_f c1 hf
    refine r_iload_n hC dX6_goneOnes_14 1 rfl ?_
    refine r_aload_n hC dX6_goneOnes_15 0 rfl ?_
    refine r_getr hC fd_RX6_7 dM_0 rfl dX6_goneOnes_16 ?_
    refine r_iconst (v := 5) hC dX6_goneOnes_19 (by decide) ?_
    refine r_iload_n hC dX6_goneOnes_20 2 rfl ?_
    refine r_iadd hC dX6_goneOnes_21 ?_
    obtain ⟨g2, hf⟩ := og_in hf
    refine r_iald hC dM_1 g2 dX6_goneOnes_22 ?_
    refine r_bipush (v := (-4)) hC dX6_goneOnes_23 (by decide) ?_
    refine r_icmp_ne (tgt := 34) hC dX6_goneOnes_25 (by decide) (fun c3 => ?_) (fun c3 => ?_)
    · have hf := ite_f c3 hf
      refine r_iconst (v := 0) hC dX6_goneOnes_34 (by decide) ?_
      refine r_ior hC dX6_goneOnes_35 ?_
      refine r_istore_n (lv' := [(1, .int (v1 ||| 0)), (0, .ref (G.1 0)), (2, .int v2)]) hC dX6_goneOnes_36 rfl (by decide) rfl ?_
      refine r_iinc (v := 1) (lv' := [(2, .int (v2 + 1)), (1, .int (v1 ||| 0)), (0, .ref (G.1 0))]) hC dX6_goneOnes_37 2 rfl (by decide) (by decide) rfl ?_
      refine r_goto (tgt := 4) hC dX6_goneOnes_40 (by decide) ?_
      refine r_loc [2, 1, 0] rfl ?_
      exact hrec (v1 ||| 0) (v2 + 1) o hf hk
    · have hf := ite_t c3 hf
      refine r_iconst (v := 1) hC dX6_goneOnes_28 (by decide) ?_
      refine r_iload_n hC dX6_goneOnes_29 2 rfl ?_
      refine r_ishl (x := 1) (y := v2) hC dX6_goneOnes_30 ?_
      refine r_goto (tgt := 35) hC dX6_goneOnes_31 (by decide) ?_
      refine r_ior hC dX6_goneOnes_35 ?_
      refine r_topi (fun w4 ew4 => ?_)
      have hf := olet_at ew4 hf
      refine r_istore_n (lv' := [(1, .int w4), (0, .ref (G.1 0)), (2, .int v2)]) hC dX6_goneOnes_36 rfl (by decide) rfl ?_
      refine r_iinc (v := 1) (lv' := [(2, .int (v2 + 1)), (1, .int w4), (0, .ref (G.1 0))]) hC dX6_goneOnes_37 2 rfl (by decide) (by decide) rfl ?_
      refine r_goto (tgt := 4) hC dX6_goneOnes_40 (by decide) ?_
      refine r_loc [2, 1, 0] rfl ?_
      exact hrec w4 (v2 + 1) o hf hk
set_option maxHeartbeats 4000000 in
set_option maxRecDepth 100000 in
theorem t_X6_goneOnes_L4 {l : Launch} {G : zG} {X : zX} {K : Option Value → zS → Prop} (hC : zC G X cX6_goneOnes 3 RX6 (some .int)) {N : Nat} {u : zS} : ∀ (n : Nat) (v1 : Int32) (v2 : Int32) (o : Int32), f_X6_goneOnes_L4 N u n v1 v2 = some o → zW dscM l rm_X6_goneOnes G X K u 43 [(1, .int o)] [] → zW dscM l rm_X6_goneOnes G X K u 4 [(0, .ref (G.1 0)), (1, .int v1), (2, .int v2)] [] := by
  intro n
  induction n with
  | zero => intro v1 v2 o hf; cases hf
  | succ n ih => intro v1 v2 o hf hk; exact t_X6_goneOnes_L4_B hC (rec := f_X6_goneOnes_L4 N u n) ih v1 v2 o hf hk
set_option maxHeartbeats 4000000 in
set_option maxRecDepth 100000 in
theorem t_X6_goneOnes {l : Launch} {G : zG} {X : zX} {K : Option Value → zS → Prop} (hC : zC G X cX6_goneOnes 3 RX6 (some .int)) {N : Nat} {u : zS} (o : Int32) (hf : f_X6_goneOnes N u = some o) (hk : K (some (.int o)) u) : zW dscM l rm_X6_goneOnes G X K u 0 [(0, .ref (G.1 0))] [] := by
  unfold f_X6_goneOnes at hf
  refine r_iconst (v := 0) hC dX6_goneOnes_0 (by decide) ?_
  refine r_istore_n (lv' := [(1, .int 0), (0, .ref (G.1 0))]) hC dX6_goneOnes_1 rfl (by decide) rfl ?_
  refine r_iconst (v := 0) hC dX6_goneOnes_2 (by decide) ?_
  refine r_istore_n (lv' := [(2, .int 0), (1, .int 0), (0, .ref (G.1 0))]) hC dX6_goneOnes_3 rfl (by decide) rfl ?_
  refine r_loc [2, 1, 0] rfl ?_
  obtain ⟨q5, eq5, hf⟩ := ob_some hf
  refine t_X6_goneOnes_L4 hC N 0 0 q5 eq5 ?_
  refine r_iload_n hC dX6_goneOnes_43 0 rfl ?_
  have hf := Option.some.inj hf
  subst hf
  exact r_iret hC dX6_goneOnes_44 hk
set_option maxHeartbeats 4000000 in
set_option maxRecDepth 100000 in
theorem c_X6_goneOnes {l : Launch} {G : zG} {N : Nat} {u : zS} {r : Int32} (hf : f_X6_goneOnes N u = some r) : zM l dscM yX6_goneOnes cX6_goneOnes 3 (some .int) rm_X6_goneOnes G [.ref (G.1 0)] u (some (.int r)) u := zM.of (by decide) (Nat.le_of_ble_eq_true rfl) (fun X hC => t_X6_goneOnes hC r hf ⟨rfl, rfl⟩)
set_option maxHeartbeats 4000000 in
set_option maxRecDepth 100000 in
theorem t_X6_count {l : Launch} {G : zG} {X : zX} {K : Option Value → zS → Prop} (hC : zC G X cX6_count 2 RX6 (some .int)) {N : Nat} {u : zS} {v1 : Int32} (o : Int32) (hf : f_X6_count N u v1 = some o) (hk : K (some (.int o)) u) : zW dscM l rm_X6_count G X K u 0 [(0, .ref (G.1 0)), (1, .int v1)] [] := by
  unfold f_X6_count at hf
  refine r_iload_n hC dX6_count_0 1 rfl ?_
  by_cases s1 : v1 = 0
  · have hf := ite_t s1 hf
    refine r_tsIn (q := 0) (off := 47) (tgt := 48) hC dX6_count_1 s1 (by decide) (by decide) ?_
    refine r_aload_n hC dX6_count_48 0 rfl ?_
    refine r_getr hC fd_RX6_7 dM_0 rfl dX6_count_49 ?_
    refine r_iconst (v := 0) hC dX6_count_52 (by decide) ?_
    refine r_ialdK (j := 0) hC dM_1 (inK (by decide)) dX6_count_53 ?_
    have hf := Option.some.inj hf
    subst hf
    exact r_iret hC dX6_count_54 hk
  · have hf := ite_f s1 hf
    by_cases s2 : v1 = 1
    · have hf := ite_t s2 hf
      refine r_tsIn (q := 1) (off := 54) (tgt := 55) hC dX6_count_1 s2 (by decide) (by decide) ?_
      refine r_aload_n hC dX6_count_55 0 rfl ?_
      refine r_getr hC fd_RX6_7 dM_0 rfl dX6_count_56 ?_
      refine r_iconst (v := 1) hC dX6_count_59 (by decide) ?_
      refine r_ialdK (j := 1) hC dM_1 (inK (by decide)) dX6_count_60 ?_
      have hf := Option.some.inj hf
      subst hf
      exact r_iret hC dX6_count_61 hk
    · have hf := ite_f s2 hf
      by_cases s3 : v1 = 2
      · have hf := ite_t s3 hf
        refine r_tsIn (q := 2) (off := 61) (tgt := 62) hC dX6_count_1 s3 (by decide) (by decide) ?_
        refine r_aload_n hC dX6_count_62 0 rfl ?_
        refine r_getr hC fd_RX6_7 dM_0 rfl dX6_count_63 ?_
        refine r_iconst (v := 2) hC dX6_count_66 (by decide) ?_
        refine r_ialdK (j := 2) hC dM_1 (inK (by decide)) dX6_count_67 ?_
        have hf := Option.some.inj hf
        subst hf
        exact r_iret hC dX6_count_68 hk
      · have hf := ite_f s3 hf
        by_cases s4 : v1 = 3
        · have hf := ite_t s4 hf
          refine r_tsIn (q := 3) (off := 68) (tgt := 69) hC dX6_count_1 s4 (by decide) (by decide) ?_
          refine r_aload_n hC dX6_count_69 0 rfl ?_
          refine r_getr hC fd_RX6_7 dM_0 rfl dX6_count_70 ?_
          refine r_iconst (v := 3) hC dX6_count_73 (by decide) ?_
          refine r_ialdK (j := 3) hC dM_1 (inK (by decide)) dX6_count_74 ?_
          have hf := Option.some.inj hf
          subst hf
          exact r_iret hC dX6_count_75 hk
        · have hf := ite_f s4 hf
          by_cases s5 : v1 = 4
          · have hf := ite_t s5 hf
            refine r_tsIn (q := 4) (off := 75) (tgt := 76) hC dX6_count_1 s5 (by decide) (by decide) ?_
            refine r_aload_n hC dX6_count_76 0 rfl ?_
            obtain ⟨r6, er6, hf⟩ := ob_some hf
            refine r_cvi (As := []) (rest := []) hC (c_X6_taken er6) yv_X6_taken ml_RX6_78 dM_0 ⟨by decide, by decide, rfl, rfl⟩ rfl rfl (Nat.le_of_ble_eq_true rfl) dX6_count_77 ?_
            have hf := Option.some.inj hf
            subst hf
            exact r_iret hC dX6_count_80 hk
          · have hf := ite_f s5 hf
            by_cases s7 : v1 = 5
            · have hf := ite_t s7 hf
              refine r_tsIn (q := 5) (off := 80) (tgt := 81) hC dX6_count_1 s7 (by decide) (by decide) ?_
              refine r_aload_n hC dX6_count_81 0 rfl ?_
              obtain ⟨r8, er8, hf⟩ := ob_some hf
              refine r_cvi (As := []) (rest := []) hC (c_X6_goneOnes er8) yv_X6_goneOnes ml_RX6_143 dM_0 ⟨by decide, by decide, rfl, rfl⟩ rfl rfl (Nat.le_of_ble_eq_true rfl) dX6_count_82 ?_
              have hf := Option.some.inj hf
              subst hf
              exact r_iret hC dX6_count_85 hk
            · have hf := ite_f s7 hf
              by_cases s9 : v1 = 6
              · have hf := ite_t s9 hf
                refine r_tsIn (q := 6) (off := 85) (tgt := 86) hC dX6_count_1 s9 (by decide) (by decide) ?_
                refine r_aload_n hC dX6_count_86 0 rfl ?_
                refine r_getr hC fd_RX6_7 dM_0 rfl dX6_count_87 ?_
                refine r_iconst (v := 2) hC dX6_count_90 (by decide) ?_
                refine r_ialdK (j := 2) hC dM_1 (inK (by decide)) dX6_count_91 ?_
                refine r_if_ne (tgt := 100) hC dX6_count_92 (by decide) (fun c10 => ?_) (fun c10 => ?_)
                · have hf := ite_f c10 hf
                  refine r_aload_n hC dX6_count_100 0 rfl ?_
                  refine r_getr hC fd_RX6_7 dM_0 rfl dX6_count_101 ?_
                  refine r_bipush (v := 23) hC dX6_count_104 (by decide) ?_
                  refine r_aload_n hC dX6_count_106 0 rfl ?_
                  refine r_getr hC fd_RX6_7 dM_0 rfl dX6_count_107 ?_
                  refine r_iconst (v := 3) hC dX6_count_110 (by decide) ?_
                  refine r_ialdK (j := 3) hC dM_1 (inK (by decide)) dX6_count_111 ?_
                  refine r_aload_n hC dX6_count_112 0 rfl ?_
                  refine r_getr hC fd_RX6_7 dM_0 rfl dX6_count_113 ?_
                  refine r_iconst (v := 2) hC dX6_count_116 (by decide) ?_
                  refine r_ialdK (j := 2) hC dM_1 (inK (by decide)) dX6_count_117 ?_
                  obtain ⟨g11, hf⟩ := og_ne hf
                  refine r_irem (x := (u.1 1 3)) (y := (u.1 1 2)) hC dX6_count_118 g11 ?_
                  refine r_iadd hC dX6_count_119 ?_
                  obtain ⟨g12, hf⟩ := og_in hf
                  refine r_iald hC dM_1 g12 dX6_count_120 ?_
                  have hf := Option.some.inj hf
                  subst hf
                  exact r_iret hC dX6_count_121 hk
                · have hf := ite_t c10 hf
                  refine r_bipush (v := (-4)) hC dX6_count_95 (by decide) ?_
                  refine r_goto (tgt := 121) hC dX6_count_97 (by decide) ?_
                  have hf := Option.some.inj hf
                  subst hf
                  exact r_iret hC dX6_count_121 hk
              · have hf := ite_f s9 hf
                by_cases s13 : v1 = 7
                · have hf := ite_t s13 hf
                  refine r_tsIn (q := 7) (off := 121) (tgt := 122) hC dX6_count_1 s13 (by decide) (by decide) ?_
                  refine r_aload_n hC dX6_count_122 0 rfl ?_
                  refine r_getr hC fd_RX6_7 dM_0 rfl dX6_count_123 ?_
                  refine r_bipush (v := 39) hC dX6_count_126 (by decide) ?_
                  refine r_ialdK (j := 39) hC dM_1 (inK (by decide)) dX6_count_128 ?_
                  have hf := Option.some.inj hf
                  subst hf
                  exact r_iret hC dX6_count_129 hk
                · have hf := ite_f s13 hf
                  refine r_tsOut (tgt := 130) hC dX6_count_1 (by have zs1 := lv_neT (a := 0) s1 rfl; have zs2 := lv_neT (a := 1) s2 rfl; have zs3 := lv_neT (a := 2) s3 rfl; have zs4 := lv_neT (a := 3) s4 rfl; have zs5 := lv_neT (a := 4) s5 rfl; have zs7 := lv_neT (a := 5) s7 rfl; have zs9 := lv_neT (a := 6) s9 rfl; have zs13 := lv_neT (a := 7) s13 rfl; omega) (by decide) ?_
                  refine r_iconst (v := (-1)) hC dX6_count_130 (by decide) ?_
                  have hf := Option.some.inj hf
                  subst hf
                  exact r_iret hC dX6_count_131 hk
set_option maxHeartbeats 4000000 in
set_option maxRecDepth 100000 in
theorem c_X6_count {l : Launch} {G : zG} {N : Nat} {u : zS} {v1 : Int32} {r : Int32} (hf : f_X6_count N u v1 = some r) : zM l dscM yX6_count cX6_count 2 (some .int) rm_X6_count G [.ref (G.1 0), .int v1] u (some (.int r)) u := zM.of (by decide) (Nat.le_of_ble_eq_true rfl) (fun X hC => t_X6_count hC r hf ⟨rfl, rfl⟩)
set_option maxHeartbeats 4000000 in
set_option maxRecDepth 100000 in
theorem t_X6_minds_J33 {l : Launch} {G : zG} {X : zX} {K : Option Value → zS → Prop} (hC : zC G X cX6_minds 1 RX6 none) {N : Nat} : ∀ (u : zS) (o : zS), f_X6_minds_J33 N u = some o → K none o → zW dscM l rm_X6_minds G X K u 33 [(0, .ref (G.1 0))] [] := by
  intro u o hf hk
  unfold f_X6_minds_J33 at hf
  refine r_aload_n hC dX6_minds_33 0 rfl ?_
  refine r_iconst (v := 3) hC dX6_minds_34 (by decide) ?_
  refine r_bipush (v := 40) hC dX6_minds_35 (by decide) ?_
  refine r_bipush (v := 10) hC dX6_minds_37 (by decide) ?_
  refine r_aload_n hC dX6_minds_39 0 rfl ?_
  refine r_getr hC fd_RX6_7 dM_0 rfl dX6_minds_40 ?_
  refine r_bipush (v := 39) hC dX6_minds_43 (by decide) ?_
  refine r_ialdK (j := 39) hC dM_1 (inK (by decide)) dX6_minds_45 ?_
  refine r_imul hC dX6_minds_46 ?_
  refine r_iadd hC dX6_minds_47 ?_
  refine r_bipush (v := 10) hC dX6_minds_48 (by decide) ?_
  obtain ⟨r2, er2, hf⟩ := ob_some hf
  refine r_cvv (As := [.int 3, .int (40 + (10 * (u.1 1 39))), .int 10]) (rest := []) hC (c_X6_bring er2) yv_X6_bring ml_RX6_139 dM_0 ⟨by decide, by decide, rfl, rfl⟩ rfl rfl (Nat.le_of_ble_eq_true rfl) dX6_minds_50 ?_
  refine r_aload_n hC dX6_minds_53 0 rfl ?_
  refine r_getr hC fd_RX6_7 dM_0 rfl dX6_minds_54 ?_
  refine r_bipush (v := 39) hC dX6_minds_57 (by decide) ?_
  refine r_dup2 hC dX6_minds_59 rfl rfl ?_
  refine r_ialdK (j := 39) hC dM_1 (inK (by decide)) dX6_minds_60 ?_
  refine r_iconst (v := 1) hC dX6_minds_61 (by decide) ?_
  refine r_iadd hC dX6_minds_62 ?_
  refine r_iastK (j := 39) hC dM_1 (inK (by decide)) dX6_minds_63 ?_
  refine r_tops (fun u3 eu3 => ?_)
  have hf := olet_at eu3 hf
  have hf := Option.some.inj hf
  subst hf
  exact r_vret hC dX6_minds_64 hk
set_option maxHeartbeats 4000000 in
set_option maxRecDepth 100000 in
theorem t_X6_minds {l : Launch} {G : zG} {X : zX} {K : Option Value → zS → Prop} (hC : zC G X cX6_minds 1 RX6 none) {N : Nat} {u : zS} (o : zS) (hf : f_X6_minds N u = some o) (hk : K none o) : zW dscM l rm_X6_minds G X K u 0 [(0, .ref (G.1 0))] [] := by
  unfold f_X6_minds at hf
  refine r_aload_n hC dX6_minds_0 0 rfl ?_
  refine r_getr hC fd_RX6_7 dM_0 rfl dX6_minds_1 ?_
  refine r_bipush (v := 39) hC dX6_minds_4 (by decide) ?_
  refine r_ialdK (j := 39) hC dM_1 (inK (by decide)) dX6_minds_6 ?_
  refine r_bipush (v := 8) hC dX6_minds_7 (by decide) ?_
  refine r_icmp_ne (tgt := 33) hC dX6_minds_9 (by decide) (fun c1 => ?_) (fun c1 => ?_)
  · have hf := ite_f c1 hf
    exact t_X6_minds_J33 hC  u o hf hk
  · have hf := ite_t c1 hf
    refine r_aload_n hC dX6_minds_12 0 rfl ?_
    refine r_bipush (v := 50) hC dX6_minds_13 (by decide) ?_
    refine r_bipush (v := 40) hC dX6_minds_15 (by decide) ?_
    refine r_bipush (v := 70) hC dX6_minds_17 (by decide) ?_
    obtain ⟨r4, er4, hf⟩ := ob_some hf
    refine r_cvv (As := [.int 50, .int 40, .int 70]) (rest := []) hC (c_X6_bring er4) yv_X6_bring ml_RX6_139 dM_0 ⟨by decide, by decide, rfl, rfl⟩ rfl rfl (Nat.le_of_ble_eq_true rfl) dX6_minds_19 ?_
    refine r_aload_n hC dX6_minds_22 0 rfl ?_
    refine r_getr hC fd_RX6_7 dM_0 rfl dX6_minds_23 ?_
    refine r_bipush (v := 39) hC dX6_minds_26 (by decide) ?_
    refine r_dup2 hC dX6_minds_28 rfl rfl ?_
    refine r_ialdK (j := 39) hC dM_1 (inK (by decide)) dX6_minds_29 ?_
    refine r_iconst (v := 1) hC dX6_minds_30 (by decide) ?_
    refine r_isub hC dX6_minds_31 ?_
    refine r_iastK (j := 39) hC dM_1 (inK (by decide)) dX6_minds_32 ?_
    refine r_tops (fun u5 eu5 => ?_)
    have hf := olet_at eu5 hf
    exact t_X6_minds_J33 hC  u5 o hf hk
set_option maxHeartbeats 4000000 in
set_option maxRecDepth 100000 in
theorem c_X6_minds {l : Launch} {G : zG} {N : Nat} {u : zS} {r : zS} (hf : f_X6_minds N u = some r) : zM l dscM yX6_minds cX6_minds 1 none rm_X6_minds G [.ref (G.1 0)] u none r := zM.of (by decide) (Nat.le_of_ble_eq_true rfl) (fun X hC => t_X6_minds hC r hf ⟨rfl, rfl⟩)
set_option maxHeartbeats 4000000 in
set_option maxRecDepth 100000 in
theorem t_X6_passes_L2_B {l : Launch} {G : zG} {X : zX} {K : Option Value → zS → Prop} (hC : zC G X cX6_passes 2 RX6 none) {N : Nat} {rec : zS → Int32 → Option (zS)} (hrec : ∀ (u : zS) (v1 : Int32) (o : zS), rec u v1 = some o → zW dscM l rm_X6_passes G X K o 81 [(0, .ref (G.1 0))] [] → zW dscM l rm_X6_passes G X K u 2 [(0, .ref (G.1 0)), (1, .int v1)] []) : ∀ (u : zS) (v1 : Int32) (o : zS), f_X6_passes_L2_B N rec u v1 = some o → zW dscM l rm_X6_passes G X K o 81 [(0, .ref (G.1 0))] [] → zW dscM l rm_X6_passes G X K u 2 [(0, .ref (G.1 0)), (1, .int v1)] [] := by
  intro u v1 o hf hk
  unfold f_X6_passes_L2_B at hf
  refine r_iload_n hC dX6_passes_2 1 rfl ?_
  refine r_aload_n hC dX6_passes_3 0 rfl ?_
  refine r_getr hC fd_RX6_7 dM_0 rfl dX6_passes_4 ?_
  refine r_iconst (v := 0) hC dX6_passes_7 (by decide) ?_
  refine r_ialdK (j := 0) hC dM_1 (inK (by decide)) dX6_passes_8 ?_
  refine r_icmp_ge (tgt := 81) hC dX6_passes_9 (by decide) (fun c1 => ?_) (fun c1 => ?_)
  · have hf := ite_t c1 hf
    have hf := Option.some.inj hf
    subst hf
    refine r_loc [0] rfl ?_
    exact hk
  · have hf := ite_f c1 hf
    refine r_aload_n hC dX6_passes_12 0 rfl ?_
    refine r_getr hC fd_RX6_7 dM_0 rfl dX6_passes_13 ?_
    refine r_iconst (v := 2) hC dX6_passes_16 (by decide) ?_
    refine r_ialdK (j := 2) hC dM_1 (inK (by decide)) dX6_passes_17 ?_
    refine r_if_le (tgt := 81) hC dX6_passes_18 (by decide) (fun c2 => ?_) (fun c2 => ?_)
    · have hf := ite_t c2 hf
      have hf := Option.some.inj hf
      subst hf
      refine r_loc [0] rfl ?_
      exact hk
    · have hf := ite_f c2 hf
      refine r_aload_n hC dX6_passes_21 0 rfl ?_
      refine r_getr hC fd_RX6_7 dM_0 rfl dX6_passes_22 ?_
      refine r_iconst (v := 5) hC dX6_passes_25 (by decide) ?_
      refine r_iload_n hC dX6_passes_26 1 rfl ?_
      refine r_iadd hC dX6_passes_27 ?_
      obtain ⟨g3, hf⟩ := og_in hf
      refine r_iald hC dM_1 g3 dX6_passes_28 ?_
      refine r_bipush (v := (-4)) hC dX6_passes_29 (by decide) ?_
      refine r_icmp_eq (tgt := 75) hC dX6_passes_31 (by decide) (fun c4 => ?_) (fun c4 => ?_)
      · have hf := ite_t c4 hf
        refine r_iinc (v := 1) (lv' := [(1, .int (v1 + 1)), (0, .ref (G.1 0))]) hC dX6_passes_75 1 rfl (by decide) (by decide) rfl ?_
        refine r_goto (tgt := 2) hC dX6_passes_78 (by decide) ?_
        refine r_loc [1, 0] rfl ?_
        exact hrec u (v1 + 1) o hf hk
      · have hf := ite_f c4 hf
        refine r_aload_n hC dX6_passes_34 0 rfl ?_
        refine r_getr hC fd_RX6_7 dM_0 rfl dX6_passes_35 ?_
        refine r_iconst (v := 5) hC dX6_passes_38 (by decide) ?_
        refine r_iload_n hC dX6_passes_39 1 rfl ?_
        refine r_iadd hC dX6_passes_40 ?_
        refine r_aload_n hC dX6_passes_41 0 rfl ?_
        refine r_aload_n hC dX6_passes_42 0 rfl ?_
        refine r_getr hC fd_RX6_7 dM_0 rfl dX6_passes_43 ?_
        refine r_bipush (v := 23) hC dX6_passes_46 (by decide) ?_
        refine r_aload_n hC dX6_passes_48 0 rfl ?_
        refine r_getr hC fd_RX6_7 dM_0 rfl dX6_passes_49 ?_
        refine r_iconst (v := 3) hC dX6_passes_52 (by decide) ?_
        refine r_ialdK (j := 3) hC dM_1 (inK (by decide)) dX6_passes_53 ?_
        refine r_aload_n hC dX6_passes_54 0 rfl ?_
        refine r_getr hC fd_RX6_7 dM_0 rfl dX6_passes_55 ?_
        refine r_iconst (v := 2) hC dX6_passes_58 (by decide) ?_
        refine r_ialdK (j := 2) hC dM_1 (inK (by decide)) dX6_passes_59 ?_
        obtain ⟨g5, hf⟩ := og_ne hf
        refine r_irem (x := (u.1 1 3)) (y := (u.1 1 2)) hC dX6_passes_60 g5 ?_
        refine r_iadd hC dX6_passes_61 ?_
        obtain ⟨g6, hf⟩ := og_in hf
        refine r_iald hC dM_1 g6 dX6_passes_62 ?_
        refine r_aload_n hC dX6_passes_63 0 rfl ?_
        refine r_getr hC fd_RX6_7 dM_0 rfl dX6_passes_64 ?_
        refine r_iconst (v := 5) hC dX6_passes_67 (by decide) ?_
        refine r_iload_n hC dX6_passes_68 1 rfl ?_
        refine r_iadd hC dX6_passes_69 ?_
        obtain ⟨g7, hf⟩ := og_in hf
        refine r_iald hC dM_1 g7 dX6_passes_70 ?_
        obtain ⟨r8, er8, hf⟩ := ob_some hf
        refine r_cvi (As := [.int (u.1 1 (Int32.toNatClampNeg (23 + ((u.1 1 3) - (u.1 1 3) / (u.1 1 2) * (u.1 1 2))))), .int (u.1 1 (Int32.toNatClampNeg (5 + v1)))]) (rest := [.int (5 + v1), .ref (G.1 1)]) hC (c_X6_leadsOf er8) yv_X6_leadsOf ml_RX6_67 dM_0 ⟨by decide, by decide, rfl, rfl⟩ rfl rfl (Nat.le_of_ble_eq_true rfl) dX6_passes_71 ?_
        obtain ⟨g9, hf⟩ := og_in hf
        refine r_iast hC dM_1 g9 dX6_passes_74 ?_
        refine r_tops (fun u10 eu10 => ?_)
        have hf := olet_at eu10 hf
        refine r_iinc (v := 1) (lv' := [(1, .int (v1 + 1)), (0, .ref (G.1 0))]) hC dX6_passes_75 1 rfl (by decide) (by decide) rfl ?_
        refine r_goto (tgt := 2) hC dX6_passes_78 (by decide) ?_
        refine r_loc [1, 0] rfl ?_
        exact hrec u10 (v1 + 1) o hf hk
set_option maxHeartbeats 4000000 in
set_option maxRecDepth 100000 in
theorem t_X6_passes_L2 {l : Launch} {G : zG} {X : zX} {K : Option Value → zS → Prop} (hC : zC G X cX6_passes 2 RX6 none) {N : Nat} : ∀ (n : Nat) (u : zS) (v1 : Int32) (o : zS), f_X6_passes_L2 N n u v1 = some o → zW dscM l rm_X6_passes G X K o 81 [(0, .ref (G.1 0))] [] → zW dscM l rm_X6_passes G X K u 2 [(0, .ref (G.1 0)), (1, .int v1)] [] := by
  intro n
  induction n with
  | zero => intro u v1 o hf; cases hf
  | succ n ih => intro u v1 o hf hk; exact t_X6_passes_L2_B hC (rec := f_X6_passes_L2 N n) ih u v1 o hf hk
set_option maxHeartbeats 4000000 in
set_option maxRecDepth 100000 in
theorem t_X6_passes {l : Launch} {G : zG} {X : zX} {K : Option Value → zS → Prop} (hC : zC G X cX6_passes 2 RX6 none) {N : Nat} {u : zS} (o : zS) (hf : f_X6_passes N u = some o) (hk : K none o) : zW dscM l rm_X6_passes G X K u 0 [(0, .ref (G.1 0))] [] := by
  unfold f_X6_passes at hf
  refine r_iconst (v := 0) hC dX6_passes_0 (by decide) ?_
  refine r_istore_n (lv' := [(1, .int 0), (0, .ref (G.1 0))]) hC dX6_passes_1 rfl (by decide) rfl ?_
  refine r_loc [1, 0] rfl ?_
  obtain ⟨q11, eq11, hf⟩ := ob_some hf
  refine t_X6_passes_L2 hC N u 0 q11 eq11 ?_
  refine r_aload_n hC dX6_passes_81 0 rfl ?_
  refine r_getr hC fd_RX6_7 dM_0 rfl dX6_passes_82 ?_
  refine r_iconst (v := 3) hC dX6_passes_85 (by decide) ?_
  refine r_dup2 hC dX6_passes_86 rfl rfl ?_
  refine r_ialdK (j := 3) hC dM_1 (inK (by decide)) dX6_passes_87 ?_
  refine r_iconst (v := 1) hC dX6_passes_88 (by decide) ?_
  refine r_iadd hC dX6_passes_89 ?_
  refine r_iastK (j := 3) hC dM_1 (inK (by decide)) dX6_passes_90 ?_
  refine r_tops (fun u12 eu12 => ?_)
  have hf := olet_at eu12 hf
  have hf := Option.some.inj hf
  subst hf
  exact r_vret hC dX6_passes_91 hk
set_option maxHeartbeats 4000000 in
set_option maxRecDepth 100000 in
theorem c_X6_passes {l : Launch} {G : zG} {N : Nat} {u : zS} {r : zS} (hf : f_X6_passes N u = some r) : zM l dscM yX6_passes cX6_passes 2 none rm_X6_passes G [.ref (G.1 0)] u none r := zM.of (by decide) (Nat.le_of_ble_eq_true rfl) (fun X hC => t_X6_passes hC r hf ⟨rfl, rfl⟩)
set_option maxHeartbeats 4000000 in
set_option maxRecDepth 100000 in
theorem t_X6_blows_L2_B {l : Launch} {G : zG} {X : zX} {K : Option Value → zS → Prop} (hC : zC G X cX6_blows 3 RX6 none) {N : Nat} {v1 : Int32} {rec : zS → Int32 → Option (zS)} (hrec : ∀ (u : zS) (v2 : Int32) (o : zS), rec u v2 = some o → zW dscM l rm_X6_blows G X K o 57 [] [] → zW dscM l rm_X6_blows G X K u 2 [(0, .ref (G.1 0)), (1, .int v1), (2, .int v2)] []) : ∀ (u : zS) (v2 : Int32) (o : zS), f_X6_blows_L2_B N v1 rec u v2 = some o → zW dscM l rm_X6_blows G X K o 57 [] [] → zW dscM l rm_X6_blows G X K u 2 [(0, .ref (G.1 0)), (1, .int v1), (2, .int v2)] [] := by
  intro u v2 o hf hk
  unfold f_X6_blows_L2_B at hf
  refine r_iload_n hC dX6_blows_2 2 rfl ?_
  refine r_aload_n hC dX6_blows_3 0 rfl ?_
  refine r_getr hC fd_RX6_7 dM_0 rfl dX6_blows_4 ?_
  refine r_iconst (v := 0) hC dX6_blows_7 (by decide) ?_
  refine r_ialdK (j := 0) hC dM_1 (inK (by decide)) dX6_blows_8 ?_
  refine r_icmp_ge (tgt := 57) hC dX6_blows_9 (by decide) (fun c1 => ?_) (fun c1 => ?_)
  · have hf := ite_t c1 hf
    have hf := Option.some.inj hf
    subst hf
    refine r_loc [] rfl ?_
    exact hk
  · have hf := ite_f c1 hf
    refine r_aload_n hC dX6_blows_12 0 rfl ?_
    refine r_getr hC fd_RX6_7 dM_0 rfl dX6_blows_13 ?_
    refine r_iconst (v := 5) hC dX6_blows_16 (by decide) ?_
    refine r_iload_n hC dX6_blows_17 2 rfl ?_
    refine r_iadd hC dX6_blows_18 ?_
    refine r_aload_n hC dX6_blows_19 0 rfl ?_
    refine r_getr hC fd_RX6_7 dM_0 rfl dX6_blows_20 ?_
    refine r_iconst (v := 5) hC dX6_blows_23 (by decide) ?_
    refine r_iload_n hC dX6_blows_24 2 rfl ?_
    refine r_iadd hC dX6_blows_25 ?_
    obtain ⟨g2, hf⟩ := og_in hf
    refine r_iald hC dM_1 g2 dX6_blows_26 ?_
    refine r_bipush (v := (-4)) hC dX6_blows_27 (by decide) ?_
    refine r_icmp_ne (tgt := 37) hC dX6_blows_29 (by decide) (fun c3 => ?_) (fun c3 => ?_)
    · have hf := ite_f c3 hf
      refine r_aload_n hC dX6_blows_37 0 rfl ?_
      refine r_getr hC fd_RX6_7 dM_0 rfl dX6_blows_38 ?_
      refine r_iconst (v := 5) hC dX6_blows_41 (by decide) ?_
      refine r_iload_n hC dX6_blows_42 2 rfl ?_
      refine r_iadd hC dX6_blows_43 ?_
      obtain ⟨g4, hf⟩ := og_in hf
      refine r_iald hC dM_1 g4 dX6_blows_44 ?_
      refine r_iload_n hC dX6_blows_45 1 rfl ?_
      refine r_iadd hC dX6_blows_46 ?_
      refine r_bipush (v := 8) hC dX6_blows_47 (by decide) ?_
      refine r_irem (x := ((u.1 1 (Int32.toNatClampNeg (5 + v2))) + v1)) (y := 8) hC dX6_blows_49 (by decide) ?_
      obtain ⟨g5, hf⟩ := og_in hf
      refine r_iast hC dM_1 g5 dX6_blows_50 ?_
      refine r_tops (fun u6 eu6 => ?_)
      have hf := olet_at eu6 hf
      refine r_iinc (v := 1) (lv' := [(2, .int (v2 + 1)), (0, .ref (G.1 0)), (1, .int v1)]) hC dX6_blows_51 2 rfl (by decide) (by decide) rfl ?_
      refine r_goto (tgt := 2) hC dX6_blows_54 (by decide) ?_
      refine r_loc [1, 2, 0] rfl ?_
      exact hrec u6 (v2 + 1) o hf hk
    · have hf := ite_t c3 hf
      refine r_bipush (v := (-4)) hC dX6_blows_32 (by decide) ?_
      refine r_goto (tgt := 50) hC dX6_blows_34 (by decide) ?_
      obtain ⟨g7, hf⟩ := og_in hf
      refine r_iast hC dM_1 g7 dX6_blows_50 ?_
      refine r_tops (fun u8 eu8 => ?_)
      have hf := olet_at eu8 hf
      refine r_iinc (v := 1) (lv' := [(2, .int (v2 + 1)), (0, .ref (G.1 0)), (1, .int v1)]) hC dX6_blows_51 2 rfl (by decide) (by decide) rfl ?_
      refine r_goto (tgt := 2) hC dX6_blows_54 (by decide) ?_
      refine r_loc [1, 2, 0] rfl ?_
      exact hrec u8 (v2 + 1) o hf hk
set_option maxHeartbeats 4000000 in
set_option maxRecDepth 100000 in
theorem t_X6_blows_L2 {l : Launch} {G : zG} {X : zX} {K : Option Value → zS → Prop} (hC : zC G X cX6_blows 3 RX6 none) {N : Nat} {v1 : Int32} : ∀ (n : Nat) (u : zS) (v2 : Int32) (o : zS), f_X6_blows_L2 N v1 n u v2 = some o → zW dscM l rm_X6_blows G X K o 57 [] [] → zW dscM l rm_X6_blows G X K u 2 [(0, .ref (G.1 0)), (1, .int v1), (2, .int v2)] [] := by
  intro n
  induction n with
  | zero => intro u v2 o hf; cases hf
  | succ n ih => intro u v2 o hf hk; exact t_X6_blows_L2_B hC (rec := f_X6_blows_L2 N v1 n) ih u v2 o hf hk
set_option maxHeartbeats 4000000 in
set_option maxRecDepth 100000 in
theorem t_X6_blows {l : Launch} {G : zG} {X : zX} {K : Option Value → zS → Prop} (hC : zC G X cX6_blows 3 RX6 none) {N : Nat} {u : zS} {v1 : Int32} (o : zS) (hf : f_X6_blows N u v1 = some o) (hk : K none o) : zW dscM l rm_X6_blows G X K u 0 [(0, .ref (G.1 0)), (1, .int v1)] [] := by
  unfold f_X6_blows at hf
  refine r_iconst (v := 0) hC dX6_blows_0 (by decide) ?_
  refine r_istore_n (lv' := [(2, .int 0), (0, .ref (G.1 0)), (1, .int v1)]) hC dX6_blows_1 rfl (by decide) rfl ?_
  refine r_loc [1, 2, 0] rfl ?_
  obtain ⟨q9, eq9, hf⟩ := ob_some hf
  refine t_X6_blows_L2 hC N u 0 q9 eq9 ?_
  have hf := Option.some.inj hf
  subst hf
  exact r_vret hC dX6_blows_57 hk
set_option maxHeartbeats 4000000 in
set_option maxRecDepth 100000 in
theorem c_X6_blows {l : Launch} {G : zG} {N : Nat} {u : zS} {v1 : Int32} {r : zS} (hf : f_X6_blows N u v1 = some r) : zM l dscM yX6_blows cX6_blows 3 none rm_X6_blows G [.ref (G.1 0), .int v1] u none r := zM.of (by decide) (Nat.le_of_ble_eq_true rfl) (fun X hC => t_X6_blows hC r hf ⟨rfl, rfl⟩)
set_option maxHeartbeats 4000000 in
set_option maxRecDepth 100000 in
theorem t_X6_beats_L33_B {l : Launch} {G : zG} {X : zX} {K : Option Value → zS → Prop} (hC : zC G X cX6_beats 3 RX6 (some .int)) {N : Nat} {v1 : Int32} {rec : zS → Int32 → Option (zS)} (hrec : ∀ (u : zS) (v2 : Int32) (o : zS), rec u v2 = some o → zW dscM l rm_X6_beats G X K o 52 [(0, .ref (G.1 0))] [] → zW dscM l rm_X6_beats G X K u 33 [(0, .ref (G.1 0)), (1, .int v1), (2, .int v2)] []) : ∀ (u : zS) (v2 : Int32) (o : zS), f_X6_beats_L33_B N v1 rec u v2 = some o → zW dscM l rm_X6_beats G X K o 52 [(0, .ref (G.1 0))] [] → zW dscM l rm_X6_beats G X K u 33 [(0, .ref (G.1 0)), (1, .int v1), (2, .int v2)] [] := by
  intro u v2 o hf hk
  unfold f_X6_beats_L33_B at hf
  refine r_iload_n hC dX6_beats_33 2 rfl ?_
  refine r_iload_n hC dX6_beats_34 1 rfl ?_
  refine r_icmp_ge (tgt := 52) hC dX6_beats_35 (by decide) (fun c3 => ?_) (fun c3 => ?_)
  · have hf := ite_t c3 hf
    have hf := Option.some.inj hf
    subst hf
    refine r_loc [0] rfl ?_
    exact hk
  · have hf := ite_f c3 hf
    refine r_aload_n hC dX6_beats_38 0 rfl ?_
    obtain ⟨r4, er4, hf⟩ := ob_some hf
    refine r_cvv (As := []) (rest := []) hC (c_X6_minds er4) yv_X6_minds ml_RX6_148 dM_0 ⟨by decide, by decide, rfl, rfl⟩ rfl rfl (Nat.le_of_ble_eq_true rfl) dX6_beats_39 ?_
    refine r_aload_n hC dX6_beats_42 0 rfl ?_
    obtain ⟨r5, er5, hf⟩ := ob_some hf
    refine r_cvv (As := []) (rest := []) hC (c_X6_passes er5) yv_X6_passes ml_RX6_151 dM_0 ⟨by decide, by decide, rfl, rfl⟩ rfl rfl (Nat.le_of_ble_eq_true rfl) dX6_beats_43 ?_
    refine r_iinc (v := 1) (lv' := [(2, .int (v2 + 1)), (0, .ref (G.1 0)), (1, .int v1)]) hC dX6_beats_46 2 rfl (by decide) (by decide) rfl ?_
    refine r_goto (tgt := 33) hC dX6_beats_49 (by decide) ?_
    refine r_loc [1, 2, 0] rfl ?_
    exact hrec r5 (v2 + 1) o hf hk
set_option maxHeartbeats 4000000 in
set_option maxRecDepth 100000 in
theorem t_X6_beats_L33 {l : Launch} {G : zG} {X : zX} {K : Option Value → zS → Prop} (hC : zC G X cX6_beats 3 RX6 (some .int)) {N : Nat} {v1 : Int32} : ∀ (n : Nat) (u : zS) (v2 : Int32) (o : zS), f_X6_beats_L33 N v1 n u v2 = some o → zW dscM l rm_X6_beats G X K o 52 [(0, .ref (G.1 0))] [] → zW dscM l rm_X6_beats G X K u 33 [(0, .ref (G.1 0)), (1, .int v1), (2, .int v2)] [] := by
  intro n
  induction n with
  | zero => intro u v2 o hf; cases hf
  | succ n ih => intro u v2 o hf hk; exact t_X6_beats_L33_B hC (rec := f_X6_beats_L33 N v1 n) ih u v2 o hf hk
set_option maxHeartbeats 4000000 in
set_option maxRecDepth 100000 in
theorem t_X6_beats {l : Launch} {G : zG} {X : zX} {K : Option Value → zS → Prop} (hC : zC G X cX6_beats 3 RX6 (some .int)) {N : Nat} {u : zS} {v1 : Int32} (o : Int32 × zS) (hf : f_X6_beats N u v1 = some o) (hk : K (some (.int o.1)) o.2) : zW dscM l rm_X6_beats G X K u 0 [(0, .ref (G.1 0)), (1, .int v1)] [] := by
  unfold f_X6_beats at hf
  refine r_iload_n hC dX6_beats_0 1 rfl ?_
  refine r_i2l hC dX6_beats_1 ?_
  refine r_lconst (v := 1) hC dX6_beats_2 (by decide) ?_
  refine r_ldc2 hC cn_RX6_146 dX6_beats_3 ?_
  refine r_csi (As := [.long (Int32.toInt64 v1), .long 1, .long 40]) (rest := []) hC c_X6_in ys_X6_in ml_RX6_52 ⟨by decide, by decide, rfl, rfl⟩ rfl rfl (Nat.le_of_ble_eq_true rfl) dX6_beats_6 ?_
  refine r_if_ne (tgt := 14) hC dX6_beats_9 (by decide) (fun c1 => ?_) (fun c1 => ?_)
  · have hf := ite_f c1 hf
    refine r_aload_n hC dX6_beats_14 0 rfl ?_
    refine r_getr hC fd_RX6_7 dM_0 rfl dX6_beats_15 ?_
    refine r_iconst (v := 3) hC dX6_beats_18 (by decide) ?_
    refine r_ialdK (j := 3) hC dM_1 (inK (by decide)) dX6_beats_19 ?_
    refine r_iload_n hC dX6_beats_20 1 rfl ?_
    refine r_iadd hC dX6_beats_21 ?_
    refine r_sipush (v := 9999) hC dX6_beats_22 (by decide) ?_
    refine r_icmp_le (tgt := 31) hC dX6_beats_25 (by decide) (fun c2 => ?_) (fun c2 => ?_)
    · have hf := ite_t c2 hf
      refine r_iconst (v := 0) hC dX6_beats_31 (by decide) ?_
      refine r_istore_n (lv' := [(2, .int 0), (0, .ref (G.1 0)), (1, .int v1)]) hC dX6_beats_32 rfl (by decide) rfl ?_
      refine r_loc [1, 2, 0] rfl ?_
      obtain ⟨q6, eq6, hf⟩ := ob_some hf
      refine t_X6_beats_L33 hC N u 0 q6 eq6 ?_
      refine r_aload_n hC dX6_beats_52 0 rfl ?_
      obtain ⟨r7, er7, hf⟩ := ob_some hf
      refine r_cvi (As := []) (rest := []) hC (c_X6_taken er7) yv_X6_taken ml_RX6_78 dM_0 ⟨by decide, by decide, rfl, rfl⟩ rfl rfl (Nat.le_of_ble_eq_true rfl) dX6_beats_53 ?_
      have hf := Option.some.inj hf
      subst hf
      exact r_iret hC dX6_beats_56 hk
    · have hf := ite_f c2 hf
      refine r_bipush (v := (-3)) hC dX6_beats_28 (by decide) ?_
      have hf := Option.some.inj hf
      subst hf
      exact r_iret hC dX6_beats_30 hk
  · have hf := ite_t c1 hf
    refine r_iconst (v := (-1)) hC dX6_beats_12 (by decide) ?_
    have hf := Option.some.inj hf
    subst hf
    exact r_iret hC dX6_beats_13 hk
set_option maxHeartbeats 4000000 in
set_option maxRecDepth 100000 in
theorem c_X6_beats {l : Launch} {G : zG} {N : Nat} {u : zS} {v1 : Int32} {r : Int32 × zS} (hf : f_X6_beats N u v1 = some r) : zM l dscM yX6_beats cX6_beats 3 (some .int) rm_X6_beats G [.ref (G.1 0), .int v1] u (some (.int r.1)) r.2 := zM.of (by decide) (Nat.le_of_ble_eq_true rfl) (fun X hC => t_X6_beats hC r hf ⟨rfl, rfl⟩)
set_option maxHeartbeats 4000000 in
set_option maxRecDepth 100000 in
theorem t_X6_draught {l : Launch} {G : zG} {X : zX} {K : Option Value → zS → Prop} (hC : zC G X cX6_draught 2 RX6 (some .int)) {N : Nat} {u : zS} {v1 : Int32} (o : Int32 × zS) (hf : f_X6_draught N u v1 = some o) (hk : K (some (.int o.1)) o.2) : zW dscM l rm_X6_draught G X K u 0 [(0, .ref (G.1 0)), (1, .int v1)] [] := by
  unfold f_X6_draught at hf
  refine r_iload_n hC dX6_draught_0 1 rfl ?_
  refine r_i2l hC dX6_draught_1 ?_
  refine r_lconst (v := 1) hC dX6_draught_2 (by decide) ?_
  refine r_ldc2 hC cn_RX6_50 dX6_draught_3 ?_
  refine r_csi (As := [.long (Int32.toInt64 v1), .long 1, .long 7]) (rest := []) hC c_X6_in ys_X6_in ml_RX6_52 ⟨by decide, by decide, rfl, rfl⟩ rfl rfl (Nat.le_of_ble_eq_true rfl) dX6_draught_6 ?_
  refine r_if_ne (tgt := 14) hC dX6_draught_9 (by decide) (fun c1 => ?_) (fun c1 => ?_)
  · have hf := ite_f c1 hf
    refine r_aload_n hC dX6_draught_14 0 rfl ?_
    obtain ⟨r2, er2, hf⟩ := ob_some hf
    refine r_cvv (As := []) (rest := []) hC (c_X6_minds er2) yv_X6_minds ml_RX6_148 dM_0 ⟨by decide, by decide, rfl, rfl⟩ rfl rfl (Nat.le_of_ble_eq_true rfl) dX6_draught_15 ?_
    refine r_aload_n hC dX6_draught_18 0 rfl ?_
    refine r_iload_n hC dX6_draught_19 1 rfl ?_
    obtain ⟨r3, er3, hf⟩ := ob_some hf
    refine r_cvv (As := [.int v1]) (rest := []) hC (c_X6_blows er3) yv_X6_blows ml_RX6_154 dM_0 ⟨by decide, by decide, rfl, rfl⟩ rfl rfl (Nat.le_of_ble_eq_true rfl) dX6_draught_20 ?_
    refine r_aload_n hC dX6_draught_23 0 rfl ?_
    obtain ⟨r4, er4, hf⟩ := ob_some hf
    refine r_cvi (As := []) (rest := []) hC (c_X6_taken er4) yv_X6_taken ml_RX6_78 dM_0 ⟨by decide, by decide, rfl, rfl⟩ rfl rfl (Nat.le_of_ble_eq_true rfl) dX6_draught_24 ?_
    have hf := Option.some.inj hf
    subst hf
    exact r_iret hC dX6_draught_27 hk
  · have hf := ite_t c1 hf
    refine r_iconst (v := (-1)) hC dX6_draught_12 (by decide) ?_
    have hf := Option.some.inj hf
    subst hf
    exact r_iret hC dX6_draught_13 hk
set_option maxHeartbeats 4000000 in
set_option maxRecDepth 100000 in
theorem c_X6_draught {l : Launch} {G : zG} {N : Nat} {u : zS} {v1 : Int32} {r : Int32 × zS} (hf : f_X6_draught N u v1 = some r) : zM l dscM yX6_draught cX6_draught 2 (some .int) rm_X6_draught G [.ref (G.1 0), .int v1] u (some (.int r.1)) r.2 := zM.of (by decide) (Nat.le_of_ble_eq_true rfl) (fun X hC => t_X6_draught hC r hf ⟨rfl, rfl⟩)
set_option maxHeartbeats 4000000 in
set_option maxRecDepth 100000 in
theorem t_X6_leave {l : Launch} {G : zG} {X : zX} {K : Option Value → zS → Prop} (hC : zC G X cX6_leave 3 RX6 (some .int)) {N : Nat} {u : zS} {v1 : Int32} (o : Int32 × zS) (hf : f_X6_leave N u v1 = some o) (hk : K (some (.int o.1)) o.2) : zW dscM l rm_X6_leave G X K u 0 [(0, .ref (G.1 0)), (1, .int v1)] [] := by
  unfold f_X6_leave at hf
  refine r_aload_n hC dX6_leave_0 0 rfl ?_
  refine r_iload_n hC dX6_leave_1 1 rfl ?_
  refine r_cvi (As := [.int v1]) (rest := []) hC c_X6_isAngel yv_X6_isAngel ml_RX6_100 dM_0 ⟨by decide, by decide, rfl, rfl⟩ rfl rfl (Nat.le_of_ble_eq_true rfl) dX6_leave_2 ?_
  refine r_if_ne (tgt := 10) hC dX6_leave_5 (by decide) (fun c1 => ?_) (fun c1 => ?_)
  · have hf := ite_f c1 hf
    refine r_aload_n hC dX6_leave_10 0 rfl ?_
    refine r_getr hC fd_RX6_7 dM_0 rfl dX6_leave_11 ?_
    refine r_iconst (v := 5) hC dX6_leave_14 (by decide) ?_
    refine r_iload_n hC dX6_leave_15 1 rfl ?_
    refine r_iadd hC dX6_leave_16 ?_
    obtain ⟨g2, hf⟩ := og_in hf
    refine r_iald hC dM_1 g2 dX6_leave_17 ?_
    refine r_topi (fun w3 ew3 => ?_)
    have hf := olet_at ew3 hf
    refine r_istore_n (lv' := [(2, .int w3), (0, .ref (G.1 0)), (1, .int v1)]) hC dX6_leave_18 rfl (by decide) rfl ?_
    refine r_iload_n hC dX6_leave_19 0 rfl ?_
    refine r_bipush (v := (-4)) hC dX6_leave_20 (by decide) ?_
    refine r_icmp_ne (tgt := 28) hC dX6_leave_22 (by decide) (fun c4 => ?_) (fun c4 => ?_)
    · have hf := ite_f c4 hf
      refine r_aload_n hC dX6_leave_28 1 rfl ?_
      obtain ⟨r5, er5, hf⟩ := ob_some hf
      refine r_cvv (As := []) (rest := []) hC (c_X6_minds er5) yv_X6_minds ml_RX6_148 dM_0 ⟨by decide, by decide, rfl, rfl⟩ rfl rfl (Nat.le_of_ble_eq_true rfl) dX6_leave_29 ?_
      refine r_aload_n hC dX6_leave_32 1 rfl ?_
      refine r_getr hC fd_RX6_7 dM_0 rfl dX6_leave_33 ?_
      refine r_iconst (v := 5) hC dX6_leave_36 (by decide) ?_
      refine r_iload_n hC dX6_leave_37 2 rfl ?_
      refine r_iadd hC dX6_leave_38 ?_
      refine r_bipush (v := (-4)) hC dX6_leave_39 (by decide) ?_
      obtain ⟨g6, hf⟩ := og_in hf
      refine r_iast hC dM_1 g6 dX6_leave_41 ?_
      refine r_tops (fun u7 eu7 => ?_)
      have hf := olet_at eu7 hf
      refine r_iload_n hC dX6_leave_42 0 rfl ?_
      have hf := Option.some.inj hf
      subst hf
      exact r_iret hC dX6_leave_43 hk
    · have hf := ite_t c4 hf
      refine r_bipush (v := (-2)) hC dX6_leave_25 (by decide) ?_
      have hf := Option.some.inj hf
      subst hf
      exact r_iret hC dX6_leave_27 hk
  · have hf := ite_t c1 hf
    refine r_iconst (v := (-1)) hC dX6_leave_8 (by decide) ?_
    have hf := Option.some.inj hf
    subst hf
    exact r_iret hC dX6_leave_9 hk
set_option maxHeartbeats 4000000 in
set_option maxRecDepth 100000 in
theorem c_X6_leave {l : Launch} {G : zG} {N : Nat} {u : zS} {v1 : Int32} {r : Int32 × zS} (hf : f_X6_leave N u v1 = some r) : zM l dscM yX6_leave cX6_leave 3 (some .int) rm_X6_leave G [.ref (G.1 0), .int v1] u (some (.int r.1)) r.2 := zM.of (by decide) (Nat.le_of_ble_eq_true rfl) (fun X hC => t_X6_leave hC r hf ⟨rfl, rfl⟩)
set_option maxHeartbeats 4000000 in
set_option maxRecDepth 100000 in
theorem t_X6_come {l : Launch} {G : zG} {X : zX} {K : Option Value → zS → Prop} (hC : zC G X cX6_come 3 RX6 (some .int)) {N : Nat} {u : zS} {v1 : Int32} {v2 : Int32} (o : Int32 × zS) (hf : f_X6_come N u v1 v2 = some o) (hk : K (some (.int o.1)) o.2) : zW dscM l rm_X6_come G X K u 0 [(0, .ref (G.1 0)), (1, .int v1), (2, .int v2)] [] := by
  unfold f_X6_come at hf
  refine r_aload_n hC dX6_come_0 0 rfl ?_
  refine r_iload_n hC dX6_come_1 1 rfl ?_
  refine r_cvi (As := [.int v1]) (rest := []) hC c_X6_isAngel yv_X6_isAngel ml_RX6_100 dM_0 ⟨by decide, by decide, rfl, rfl⟩ rfl rfl (Nat.le_of_ble_eq_true rfl) dX6_come_2 ?_
  refine r_if_eq (tgt := 15) hC dX6_come_5 (by decide) (fun c1 => ?_) (fun c1 => ?_)
  · have hf := ite_t c1 hf
    refine r_iconst (v := (-1)) hC dX6_come_15 (by decide) ?_
    have hf := Option.some.inj hf
    subst hf
    exact r_iret hC dX6_come_16 hk
  · have hf := ite_f c1 hf
    refine r_iload_n hC dX6_come_8 2 rfl ?_
    refine r_csi (As := [.int v2]) (rest := []) hC c_X6_isPlace ys_X6_isPlace ml_RX6_74 ⟨by decide, by decide, rfl, rfl⟩ rfl rfl (Nat.le_of_ble_eq_true rfl) dX6_come_9 ?_
    refine r_if_ne (tgt := 17) hC dX6_come_12 (by decide) (fun c2 => ?_) (fun c2 => ?_)
    · have hf := ite_f c2 hf
      refine r_aload_n hC dX6_come_17 0 rfl ?_
      refine r_getr hC fd_RX6_7 dM_0 rfl dX6_come_18 ?_
      refine r_iconst (v := 5) hC dX6_come_21 (by decide) ?_
      refine r_iload_n hC dX6_come_22 1 rfl ?_
      refine r_iadd hC dX6_come_23 ?_
      obtain ⟨g3, hf⟩ := og_in hf
      refine r_iald hC dM_1 g3 dX6_come_24 ?_
      refine r_bipush (v := (-4)) hC dX6_come_25 (by decide) ?_
      refine r_icmp_ne (tgt := 41) hC dX6_come_27 (by decide) (fun c4 => ?_) (fun c4 => ?_)
      · have hf := ite_f c4 hf
        refine r_bipush (v := (-2)) hC dX6_come_41 (by decide) ?_
        have hf := Option.some.inj hf
        subst hf
        exact r_iret hC dX6_come_43 hk
      · have hf := ite_t c4 hf
        refine r_aload_n hC dX6_come_30 0 rfl ?_
        obtain ⟨r5, er5, hf⟩ := ob_some hf
        refine r_cvi (As := []) (rest := []) hC (c_X6_taken er5) yv_X6_taken ml_RX6_78 dM_0 ⟨by decide, by decide, rfl, rfl⟩ rfl rfl (Nat.le_of_ble_eq_true rfl) dX6_come_31 ?_
        refine r_iload_n hC dX6_come_34 2 rfl ?_
        refine r_csi (As := [.int r5, .int v2]) (rest := []) hC c_X6_has ys_X6_has ml_RX6_82 ⟨by decide, by decide, rfl, rfl⟩ rfl rfl (Nat.le_of_ble_eq_true rfl) dX6_come_35 ?_
        refine r_if_eq (tgt := 44) hC dX6_come_38 (by decide) (fun c6 => ?_) (fun c6 => ?_)
        · have hf := ite_t c6 hf
          refine r_aload_n hC dX6_come_44 0 rfl ?_
          obtain ⟨r7, er7, hf⟩ := ob_some hf
          refine r_cvv (As := []) (rest := []) hC (c_X6_minds er7) yv_X6_minds ml_RX6_148 dM_0 ⟨by decide, by decide, rfl, rfl⟩ rfl rfl (Nat.le_of_ble_eq_true rfl) dX6_come_45 ?_
          refine r_aload_n hC dX6_come_48 0 rfl ?_
          refine r_getr hC fd_RX6_7 dM_0 rfl dX6_come_49 ?_
          refine r_iconst (v := 5) hC dX6_come_52 (by decide) ?_
          refine r_iload_n hC dX6_come_53 1 rfl ?_
          refine r_iadd hC dX6_come_54 ?_
          refine r_iload_n hC dX6_come_55 2 rfl ?_
          obtain ⟨g8, hf⟩ := og_in hf
          refine r_iast hC dM_1 g8 dX6_come_56 ?_
          refine r_tops (fun u9 eu9 => ?_)
          have hf := olet_at eu9 hf
          refine r_aload_n hC dX6_come_57 0 rfl ?_
          obtain ⟨r10, er10, hf⟩ := ob_some hf
          refine r_cvi (As := []) (rest := []) hC (c_X6_taken er10) yv_X6_taken ml_RX6_78 dM_0 ⟨by decide, by decide, rfl, rfl⟩ rfl rfl (Nat.le_of_ble_eq_true rfl) dX6_come_58 ?_
          obtain ⟨r11, er11, hf⟩ := ob_some hf
          refine r_csi (As := [.int r10]) (rest := []) hC (c_X6_ones er11) ys_X6_ones ml_RX6_158 ⟨by decide, by decide, rfl, rfl⟩ rfl rfl (Nat.le_of_ble_eq_true rfl) dX6_come_61 ?_
          have hf := Option.some.inj hf
          subst hf
          exact r_iret hC dX6_come_64 hk
        · have hf := ite_f c6 hf
          refine r_bipush (v := (-2)) hC dX6_come_41 (by decide) ?_
          have hf := Option.some.inj hf
          subst hf
          exact r_iret hC dX6_come_43 hk
    · have hf := ite_t c2 hf
      refine r_iconst (v := (-1)) hC dX6_come_15 (by decide) ?_
      have hf := Option.some.inj hf
      subst hf
      exact r_iret hC dX6_come_16 hk
set_option maxHeartbeats 4000000 in
set_option maxRecDepth 100000 in
theorem c_X6_come {l : Launch} {G : zG} {N : Nat} {u : zS} {v1 : Int32} {v2 : Int32} {r : Int32 × zS} (hf : f_X6_come N u v1 v2 = some r) : zM l dscM yX6_come cX6_come 3 (some .int) rm_X6_come G [.ref (G.1 0), .int v1, .int v2] u (some (.int r.1)) r.2 := zM.of (by decide) (Nat.le_of_ble_eq_true rfl) (fun X hC => t_X6_come hC r hf ⟨rfl, rfl⟩)
set_option maxHeartbeats 4000000 in
set_option maxRecDepth 100000 in
theorem t_X6_drift_L33_B {l : Launch} {G : zG} {X : zX} {K : Option Value → zS → Prop} (hC : zC G X cX6_drift 3 RX6 (some .int)) {N : Nat} {v1 : Int32} {rec : zS → Int32 → Option (zS)} (hrec : ∀ (u : zS) (v2 : Int32) (o : zS), rec u v2 = some o → zW dscM l rm_X6_drift G X K o 111 [(0, .ref (G.1 0))] [] → zW dscM l rm_X6_drift G X K u 33 [(0, .ref (G.1 0)), (1, .int v1), (2, .int v2)] []) : ∀ (u : zS) (v2 : Int32) (o : zS), f_X6_drift_L33_B N v1 rec u v2 = some o → zW dscM l rm_X6_drift G X K o 111 [(0, .ref (G.1 0))] [] → zW dscM l rm_X6_drift G X K u 33 [(0, .ref (G.1 0)), (1, .int v1), (2, .int v2)] [] := by
  intro u v2 o hf hk
  unfold f_X6_drift_L33_B at hf
  refine r_iload_n hC dX6_drift_33 2 rfl ?_
  refine r_iload_n hC dX6_drift_34 1 rfl ?_
  refine r_icmp_ge (tgt := 111) hC dX6_drift_35 (by decide) (fun c3 => ?_) (fun c3 => ?_)
  · have hf := ite_t c3 hf
    have hf := Option.some.inj hf
    subst hf
    refine r_loc [0] rfl ?_
    exact hk
  · have hf := ite_f c3 hf
    refine r_aload_n hC dX6_drift_38 0 rfl ?_
    obtain ⟨r4, er4, hf⟩ := ob_some hf
    refine r_cvv (As := []) (rest := []) hC (c_X6_minds er4) yv_X6_minds ml_RX6_148 dM_0 ⟨by decide, by decide, rfl, rfl⟩ rfl rfl (Nat.le_of_ble_eq_true rfl) dX6_drift_39 ?_
    refine r_aload_n hC dX6_drift_42 0 rfl ?_
    refine r_getr hC fd_RX6_7 dM_0 rfl dX6_drift_43 ?_
    refine r_iconst (v := 4) hC dX6_drift_46 (by decide) ?_
    refine r_aload_n hC dX6_drift_47 0 rfl ?_
    refine r_getr hC fd_RX6_7 dM_0 rfl dX6_drift_48 ?_
    refine r_iconst (v := 4) hC dX6_drift_51 (by decide) ?_
    refine r_ialdK (j := 4) hC dM_1 (inK (by decide)) dX6_drift_52 ?_
    refine r_i2l hC dX6_drift_53 ?_
    refine r_ldc2 hC cn_RX6_161 dX6_drift_54 ?_
    refine r_lmul hC dX6_drift_57 ?_
    refine r_ldc2 hC cn_RX6_163 dX6_drift_58 ?_
    refine r_ladd hC dX6_drift_61 ?_
    refine r_ldc2 hC cn_RX6_165 dX6_drift_62 ?_
    refine r_lrem (x := (((Int32.toInt64 (r4.1 1 4)) * 1103515245) + 12345)) (y := 2147483648) hC dX6_drift_65 (by decide) ?_
    refine r_l2i hC dX6_drift_66 ?_
    refine r_iastK (j := 4) hC dM_1 (inK (by decide)) dX6_drift_67 ?_
    refine r_tops (fun u5 eu5 => ?_)
    have hf := olet_at eu5 hf
    refine r_aload_n hC dX6_drift_68 0 rfl ?_
    refine r_getr hC fd_RX6_7 dM_0 rfl dX6_drift_69 ?_
    refine r_iconst (v := 4) hC dX6_drift_72 (by decide) ?_
    refine r_ialdK (j := 4) hC dM_1 (inK (by decide)) dX6_drift_73 ?_
    refine r_ldc hC cn_RX6_167 dX6_drift_74 ?_
    refine r_idiv (x := (u5.1 1 4)) (y := 65536) hC dX6_drift_76 (by decide) ?_
    refine r_iconst (v := 4) hC dX6_drift_77 (by decide) ?_
    refine r_irem (x := ((u5.1 1 4) / 65536)) (y := 4) hC dX6_drift_78 (by decide) ?_
    refine r_if_ne (tgt := 101) hC dX6_drift_79 (by decide) (fun c6 => ?_) (fun c6 => ?_)
    · have hf := ite_f c6 hf
      refine r_aload_n hC dX6_drift_101 0 rfl ?_
      obtain ⟨r7, er7, hf⟩ := ob_some hf
      refine r_cvv (As := []) (rest := []) hC (c_X6_passes er7) yv_X6_passes ml_RX6_151 dM_0 ⟨by decide, by decide, rfl, rfl⟩ rfl rfl (Nat.le_of_ble_eq_true rfl) dX6_drift_102 ?_
      refine r_iinc (v := 1) (lv' := [(2, .int (v2 + 1)), (0, .ref (G.1 0)), (1, .int v1)]) hC dX6_drift_105 2 rfl (by decide) (by decide) rfl ?_
      refine r_goto (tgt := 33) hC dX6_drift_108 (by decide) ?_
      refine r_loc [1, 2, 0] rfl ?_
      exact hrec r7 (v2 + 1) o hf hk
    · have hf := ite_t c6 hf
      refine r_aload_n hC dX6_drift_82 0 rfl ?_
      refine r_iconst (v := 1) hC dX6_drift_83 (by decide) ?_
      refine r_aload_n hC dX6_drift_84 0 rfl ?_
      refine r_getr hC fd_RX6_7 dM_0 rfl dX6_drift_85 ?_
      refine r_iconst (v := 4) hC dX6_drift_88 (by decide) ?_
      refine r_ialdK (j := 4) hC dM_1 (inK (by decide)) dX6_drift_89 ?_
      refine r_sipush (v := 128) hC dX6_drift_90 (by decide) ?_
      refine r_idiv (x := (u5.1 1 4)) (y := 128) hC dX6_drift_93 (by decide) ?_
      refine r_bipush (v := 7) hC dX6_drift_94 (by decide) ?_
      refine r_irem (x := ((u5.1 1 4) / 128)) (y := 7) hC dX6_drift_96 (by decide) ?_
      refine r_iadd hC dX6_drift_97 ?_
      obtain ⟨r8, er8, hf⟩ := ob_some hf
      refine r_cvv (As := [.int (1 + (((u5.1 1 4) / 128) - ((u5.1 1 4) / 128) / 7 * 7))]) (rest := []) hC (c_X6_blows er8) yv_X6_blows ml_RX6_154 dM_0 ⟨by decide, by decide, rfl, rfl⟩ rfl rfl (Nat.le_of_ble_eq_true rfl) dX6_drift_98 ?_
      refine r_aload_n hC dX6_drift_101 0 rfl ?_
      obtain ⟨r9, er9, hf⟩ := ob_some hf
      refine r_cvv (As := []) (rest := []) hC (c_X6_passes er9) yv_X6_passes ml_RX6_151 dM_0 ⟨by decide, by decide, rfl, rfl⟩ rfl rfl (Nat.le_of_ble_eq_true rfl) dX6_drift_102 ?_
      refine r_iinc (v := 1) (lv' := [(2, .int (v2 + 1)), (0, .ref (G.1 0)), (1, .int v1)]) hC dX6_drift_105 2 rfl (by decide) (by decide) rfl ?_
      refine r_goto (tgt := 33) hC dX6_drift_108 (by decide) ?_
      refine r_loc [1, 2, 0] rfl ?_
      exact hrec r9 (v2 + 1) o hf hk
set_option maxHeartbeats 4000000 in
set_option maxRecDepth 100000 in
theorem t_X6_drift_L33 {l : Launch} {G : zG} {X : zX} {K : Option Value → zS → Prop} (hC : zC G X cX6_drift 3 RX6 (some .int)) {N : Nat} {v1 : Int32} : ∀ (n : Nat) (u : zS) (v2 : Int32) (o : zS), f_X6_drift_L33 N v1 n u v2 = some o → zW dscM l rm_X6_drift G X K o 111 [(0, .ref (G.1 0))] [] → zW dscM l rm_X6_drift G X K u 33 [(0, .ref (G.1 0)), (1, .int v1), (2, .int v2)] [] := by
  intro n
  induction n with
  | zero => intro u v2 o hf; cases hf
  | succ n ih => intro u v2 o hf hk; exact t_X6_drift_L33_B hC (rec := f_X6_drift_L33 N v1 n) ih u v2 o hf hk
set_option maxHeartbeats 4000000 in
set_option maxRecDepth 100000 in
theorem t_X6_drift {l : Launch} {G : zG} {X : zX} {K : Option Value → zS → Prop} (hC : zC G X cX6_drift 3 RX6 (some .int)) {N : Nat} {u : zS} {v1 : Int32} (o : Int32 × zS) (hf : f_X6_drift N u v1 = some o) (hk : K (some (.int o.1)) o.2) : zW dscM l rm_X6_drift G X K u 0 [(0, .ref (G.1 0)), (1, .int v1)] [] := by
  unfold f_X6_drift at hf
  refine r_iload_n hC dX6_drift_0 1 rfl ?_
  refine r_i2l hC dX6_drift_1 ?_
  refine r_lconst (v := 1) hC dX6_drift_2 (by decide) ?_
  refine r_ldc2 hC cn_RX6_146 dX6_drift_3 ?_
  refine r_csi (As := [.long (Int32.toInt64 v1), .long 1, .long 40]) (rest := []) hC c_X6_in ys_X6_in ml_RX6_52 ⟨by decide, by decide, rfl, rfl⟩ rfl rfl (Nat.le_of_ble_eq_true rfl) dX6_drift_6 ?_
  refine r_if_ne (tgt := 14) hC dX6_drift_9 (by decide) (fun c1 => ?_) (fun c1 => ?_)
  · have hf := ite_f c1 hf
    refine r_aload_n hC dX6_drift_14 0 rfl ?_
    refine r_getr hC fd_RX6_7 dM_0 rfl dX6_drift_15 ?_
    refine r_iconst (v := 3) hC dX6_drift_18 (by decide) ?_
    refine r_ialdK (j := 3) hC dM_1 (inK (by decide)) dX6_drift_19 ?_
    refine r_iload_n hC dX6_drift_20 1 rfl ?_
    refine r_iadd hC dX6_drift_21 ?_
    refine r_sipush (v := 9999) hC dX6_drift_22 (by decide) ?_
    refine r_icmp_le (tgt := 31) hC dX6_drift_25 (by decide) (fun c2 => ?_) (fun c2 => ?_)
    · have hf := ite_t c2 hf
      refine r_iconst (v := 0) hC dX6_drift_31 (by decide) ?_
      refine r_istore_n (lv' := [(2, .int 0), (0, .ref (G.1 0)), (1, .int v1)]) hC dX6_drift_32 rfl (by decide) rfl ?_
      refine r_loc [1, 2, 0] rfl ?_
      obtain ⟨q10, eq10, hf⟩ := ob_some hf
      refine t_X6_drift_L33 hC N u 0 q10 eq10 ?_
      refine r_aload_n hC dX6_drift_111 0 rfl ?_
      obtain ⟨r11, er11, hf⟩ := ob_some hf
      refine r_cvi (As := []) (rest := []) hC (c_X6_taken er11) yv_X6_taken ml_RX6_78 dM_0 ⟨by decide, by decide, rfl, rfl⟩ rfl rfl (Nat.le_of_ble_eq_true rfl) dX6_drift_112 ?_
      have hf := Option.some.inj hf
      subst hf
      exact r_iret hC dX6_drift_115 hk
    · have hf := ite_f c2 hf
      refine r_bipush (v := (-3)) hC dX6_drift_28 (by decide) ?_
      have hf := Option.some.inj hf
      subst hf
      exact r_iret hC dX6_drift_30 hk
  · have hf := ite_t c1 hf
    refine r_iconst (v := (-1)) hC dX6_drift_12 (by decide) ?_
    have hf := Option.some.inj hf
    subst hf
    exact r_iret hC dX6_drift_13 hk
set_option maxHeartbeats 4000000 in
set_option maxRecDepth 100000 in
theorem c_X6_drift {l : Launch} {G : zG} {N : Nat} {u : zS} {v1 : Int32} {r : Int32 × zS} (hf : f_X6_drift N u v1 = some r) : zM l dscM yX6_drift cX6_drift 3 (some .int) rm_X6_drift G [.ref (G.1 0), .int v1] u (some (.int r.1)) r.2 := zM.of (by decide) (Nat.le_of_ble_eq_true rfl) (fun X hC => t_X6_drift hC r hf ⟨rfl, rfl⟩)
set_option maxHeartbeats 4000000 in
set_option maxRecDepth 100000 in
theorem t_X6_undo {l : Launch} {G : zG} {X : zX} {K : Option Value → zS → Prop} (hC : zC G X cX6_undo 1 RX6 (some .int)) {N : Nat} {u : zS} (o : Int32 × zS) (hf : f_X6_undo N u = some o) (hk : K (some (.int o.1)) o.2) : zW dscM l rm_X6_undo G X K u 0 [(0, .ref (G.1 0))] [] := by
  unfold f_X6_undo at hf
  refine r_aload_n hC dX6_undo_0 0 rfl ?_
  refine r_getr hC fd_RX6_7 dM_0 rfl dX6_undo_1 ?_
  refine r_bipush (v := 39) hC dX6_undo_4 (by decide) ?_
  refine r_ialdK (j := 39) hC dM_1 (inK (by decide)) dX6_undo_6 ?_
  refine r_if_ne (tgt := 13) hC dX6_undo_7 (by decide) (fun c1 => ?_) (fun c1 => ?_)
  · have hf := ite_f c1 hf
    refine r_aload_n hC dX6_undo_13 0 rfl ?_
    refine r_getr hC fd_RX6_7 dM_0 rfl dX6_undo_14 ?_
    refine r_bipush (v := 39) hC dX6_undo_17 (by decide) ?_
    refine r_dup2 hC dX6_undo_19 rfl rfl ?_
    refine r_ialdK (j := 39) hC dM_1 (inK (by decide)) dX6_undo_20 ?_
    refine r_iconst (v := 1) hC dX6_undo_21 (by decide) ?_
    refine r_isub hC dX6_undo_22 ?_
    refine r_iastK (j := 39) hC dM_1 (inK (by decide)) dX6_undo_23 ?_
    refine r_tops (fun u2 eu2 => ?_)
    have hf := olet_at eu2 hf
    refine r_aload_n hC dX6_undo_24 0 rfl ?_
    refine r_bipush (v := 40) hC dX6_undo_25 (by decide) ?_
    refine r_bipush (v := 10) hC dX6_undo_27 (by decide) ?_
    refine r_aload_n hC dX6_undo_29 0 rfl ?_
    refine r_getr hC fd_RX6_7 dM_0 rfl dX6_undo_30 ?_
    refine r_bipush (v := 39) hC dX6_undo_33 (by decide) ?_
    refine r_ialdK (j := 39) hC dM_1 (inK (by decide)) dX6_undo_35 ?_
    refine r_imul hC dX6_undo_36 ?_
    refine r_iadd hC dX6_undo_37 ?_
    refine r_iconst (v := 3) hC dX6_undo_38 (by decide) ?_
    refine r_bipush (v := 10) hC dX6_undo_39 (by decide) ?_
    obtain ⟨r3, er3, hf⟩ := ob_some hf
    refine r_cvv (As := [.int (40 + (10 * (u2.1 1 39))), .int 3, .int 10]) (rest := []) hC (c_X6_bring er3) yv_X6_bring ml_RX6_139 dM_0 ⟨by decide, by decide, rfl, rfl⟩ rfl rfl (Nat.le_of_ble_eq_true rfl) dX6_undo_41 ?_
    refine r_aload_n hC dX6_undo_44 0 rfl ?_
    refine r_getr hC fd_RX6_7 dM_0 rfl dX6_undo_45 ?_
    refine r_bipush (v := 39) hC dX6_undo_48 (by decide) ?_
    refine r_ialdK (j := 39) hC dM_1 (inK (by decide)) dX6_undo_50 ?_
    have hf := Option.some.inj hf
    subst hf
    exact r_iret hC dX6_undo_51 hk
  · have hf := ite_t c1 hf
    refine r_bipush (v := (-4)) hC dX6_undo_10 (by decide) ?_
    have hf := Option.some.inj hf
    subst hf
    exact r_iret hC dX6_undo_12 hk
set_option maxHeartbeats 4000000 in
set_option maxRecDepth 100000 in
theorem c_X6_undo {l : Launch} {G : zG} {N : Nat} {u : zS} {r : Int32 × zS} (hf : f_X6_undo N u = some r) : zM l dscM yX6_undo cX6_undo 1 (some .int) rm_X6_undo G [.ref (G.1 0)] u (some (.int r.1)) r.2 := zM.of (by decide) (Nat.le_of_ble_eq_true rfl) (fun X hC => t_X6_undo hC r hf ⟨rfl, rfl⟩)
