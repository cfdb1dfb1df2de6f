set_option maxHeartbeats 4000000 in
set_option maxRecDepth 100000 in
theorem t_X3_renew_L17_B {l : Launch} {G : zG} {X : zX} {K : Option Value → zS → Prop} (hC : zC G X cX3_renew 5 RX3 none) {N : Nat} {v1 : Int32} {v3 : Int32} {rec : zS → Int32 → Option (zS)} (hrec : ∀ (u : zS) (v4 : Int32) (o : zS), rec u v4 = some o → zW dscC l rm_X3_renew G X K o 42 [] [] → zW dscC l rm_X3_renew G X K u 17 [(0, .ref (G.1 33)), (1, .int v1), (3, .int v3), (4, .int v4)] []) : ∀ (u : zS) (v4 : Int32) (o : zS), f_X3_renew_L17_B N v1 v3 rec u v4 = some o → zW dscC l rm_X3_renew G X K o 42 [] [] → zW dscC l rm_X3_renew G X K u 17 [(0, .ref (G.1 33)), (1, .int v1), (3, .int v3), (4, .int v4)] [] := by
  intro u v4 o hf hk
  unfold f_X3_renew_L17_B at hf
  refine r_iload hC dX3_renew_17 3 rfl ?_
  refine r_iload_n hC dX3_renew_19 2 rfl ?_
  refine r_icmp_ge (tgt := 42) hC dX3_renew_20 (by decide) (fun c5 => ?_) (fun c5 => ?_)
  · have hf := ite_t c5 hf
    have hf := Option.some.inj hf
    subst hf
    refine r_loc [] rfl ?_
    exact hk
  · have hf := ite_f c5 hf
    refine r_aload_n hC dX3_renew_23 0 rfl ?_
    refine r_getr hC fd_RX3_18 dC_33 rfl dX3_renew_24 ?_
    refine r_iload_n hC dX3_renew_27 1 rfl ?_
    refine r_bipush (v := 24) hC dX3_renew_28 (by decide) ?_
    refine r_imul hC dX3_renew_30 ?_
    refine r_iload hC dX3_renew_31 3 rfl ?_
    refine r_iadd hC dX3_renew_33 ?_
    refine r_lconst (v := 0) hC dX3_renew_34 (by decide) ?_
    obtain ⟨g6, hf⟩ := og_in hf
    refine r_last hC dC_36 g6 dX3_renew_35 ?_
    refine r_tops (fun u7 eu7 => ?_)
    have hf := olet_at eu7 hf
    refine r_iinc (v := 1) (lv' := [(4, .int (v4 + 1)), (0, .ref (G.1 33)), (1, .int v1), (3, .int v3)]) hC dX3_renew_36 3 rfl (by decide) (by decide) rfl ?_
    refine r_goto (tgt := 17) hC dX3_renew_39 (by decide) ?_
    refine r_loc [1, 2, 3, 0] rfl ?_
    exact hrec u7 (v4 + 1) o hf hk
set_option maxHeartbeats 4000000 in
set_option maxRecDepth 100000 in
theorem t_X3_renew_L17 {l : Launch} {G : zG} {X : zX} {K : Option Value → zS → Prop} (hC : zC G X cX3_renew 5 RX3 none) {N : Nat} {v1 : Int32} {v3 : Int32} : ∀ (n : Nat) (u : zS) (v4 : Int32) (o : zS), f_X3_renew_L17 N v1 v3 n u v4 = some o → zW dscC l rm_X3_renew G X K o 42 [] [] → zW dscC l rm_X3_renew G X K u 17 [(0, .ref (G.1 33)), (1, .int v1), (3, .int v3), (4, .int v4)] [] := by
  intro n
  induction n with
  | zero => intro u v4 o hf; cases hf
  | succ n ih => intro u v4 o hf hk; exact t_X3_renew_L17_B hC (rec := f_X3_renew_L17 N v1 v3 n) ih u v4 o hf hk
set_option maxHeartbeats 4000000 in
set_option maxRecDepth 100000 in
theorem t_X3_renew {l : Launch} {G : zG} {X : zX} {K : Option Value → zS → Prop} (hC : zC G X cX3_renew 5 RX3 none) {N : Nat} {u : zS} {v1 : Int32} {v2 : Int32} {v3 : Int32} (o : zS) (hf : f_X3_renew N u v1 v2 v3 = some o) (hk : K none o) : zW dscC l rm_X3_renew G X K u 0 [(0, .ref (G.1 33)), (1, .int v1), (2, .int v2), (3, .int v3)] [] := by
  unfold f_X3_renew at hf
  refine r_aload_n hC dX3_renew_0 0 rfl ?_
  refine r_getr hC fd_RX3_9 dC_33 rfl dX3_renew_1 ?_
  refine r_iload_n hC dX3_renew_4 1 rfl ?_
  refine r_iload_n hC dX3_renew_5 2 rfl ?_
  obtain ⟨g1, hf⟩ := og_in hf
  refine r_iast hC dC_34 g1 dX3_renew_6 ?_
  refine r_tops (fun u2 eu2 => ?_)
  have hf := olet_at eu2 hf
  refine r_aload_n hC dX3_renew_7 0 rfl ?_
  refine r_getr hC fd_RX3_15 dC_33 rfl dX3_renew_8 ?_
  refine r_iload_n hC dX3_renew_11 1 rfl ?_
  refine r_iload_n hC dX3_renew_12 3 rfl ?_
  obtain ⟨g3, hf⟩ := og_in hf
  refine r_iast hC dC_35 g3 dX3_renew_13 ?_
  refine r_tops (fun u4 eu4 => ?_)
  have hf := olet_at eu4 hf
  refine r_iconst (v := 0) hC dX3_renew_14 (by decide) ?_
  refine r_istore (lv' := [(4, .int 0), (0, .ref (G.1 33)), (1, .int v1), (2, .int v2), (3, .int v3)]) hC dX3_renew_15 (by decide) rfl ?_
  refine r_loc [1, 2, 4, 0] rfl ?_
  obtain ⟨q8, eq8, hf⟩ := ob_some hf
  refine t_X3_renew_L17 hC N u4 0 q8 eq8 ?_
  have hf := Option.some.inj hf
  subst hf
  exact r_vret hC dX3_renew_42 hk
set_option maxHeartbeats 4000000 in
set_option maxRecDepth 100000 in
theorem c_X3_renew {l : Launch} {G : zG} {N : Nat} {u : zS} {v1 : Int32} {v2 : Int32} {v3 : Int32} {r : zS} (hf : f_X3_renew N u v1 v2 v3 = some r) : zM l dscC yX3_renew cX3_renew 5 none rm_X3_renew G [.ref (G.1 33), .int v1, .int v2, .int v3] u none r := zM.of (by decide) (Nat.le_of_ble_eq_true rfl) (fun X hC => t_X3_renew hC r hf ⟨rfl, rfl⟩)
set_option maxHeartbeats 4000000 in
set_option maxRecDepth 100000 in
theorem t_X3_takeAway {l : Launch} {G : zG} {X : zX} {K : Option Value → zS → Prop} (hC : zC G X cX3_takeAway 2 RX3 (some .int)) {u : zS} {v1 : Int32} (o : Int32 × zS) (hf : f_X3_takeAway u v1 = some o) (hk : K (some (.int o.1)) o.2) : zW dscC l rm_X3_takeAway G X K u 0 [(0, .ref (G.1 33)), (1, .int v1)] [] := by
  unfold f_X3_takeAway at hf
  refine r_aload_n hC dX3_takeAway_0 0 rfl ?_
  refine r_getr hC fd_RX3_9 dC_33 rfl dX3_takeAway_1 ?_
  refine r_iload_n hC dX3_takeAway_4 1 rfl ?_
  refine r_bipush (v := (-4)) hC dX3_takeAway_5 (by decide) ?_
  obtain ⟨g1, hf⟩ := og_in hf
  refine r_iast hC dC_34 g1 dX3_takeAway_7 ?_
  refine r_tops (fun u2 eu2 => ?_)
  have hf := olet_at eu2 hf
  refine r_aload_n hC dX3_takeAway_8 0 rfl ?_
  refine r_getr hC fd_RX3_15 dC_33 rfl dX3_takeAway_9 ?_
  refine r_iload_n hC dX3_takeAway_12 1 rfl ?_
  obtain ⟨g3, hf⟩ := og_in hf
  refine r_iald hC dC_35 g3 dX3_takeAway_13 ?_
  have hf := Option.some.inj hf
  subst hf
  exact r_iret hC dX3_takeAway_14 hk
set_option maxHeartbeats 4000000 in
set_option maxRecDepth 100000 in
theorem c_X3_takeAway {l : Launch} {G : zG} {u : zS} {v1 : Int32} {r : Int32 × zS} (hf : f_X3_takeAway u v1 = some r) : zM l dscC yX3_takeAway cX3_takeAway 2 (some .int) rm_X3_takeAway G [.ref (G.1 33), .int v1] u (some (.int r.1)) r.2 := zM.of (by decide) (Nat.le_of_ble_eq_true rfl) (fun X hC => t_X3_takeAway hC r hf ⟨rfl, rfl⟩)
set_option maxHeartbeats 4000000 in
set_option maxRecDepth 100000 in
theorem t_X3_itemOf {l : Launch} {G : zG} {X : zX} {K : Option Value → zS → Prop} (hC : zC G X cX3_itemOf 3 RX3 (some .long)) {u : zS} {v1 : Int32} {v2 : Int32} (o : Int64) (hf : f_X3_itemOf u v1 v2 = some o) (hk : K (some (.long o)) u) : zW dscC l rm_X3_itemOf G X K u 0 [(0, .ref (G.1 33)), (1, .int v1), (2, .int v2)] [] := by
  unfold f_X3_itemOf at hf
  refine r_aload_n hC dX3_itemOf_0 0 rfl ?_
  refine r_getr hC fd_RX3_18 dC_33 rfl dX3_itemOf_1 ?_
  refine r_iload_n hC dX3_itemOf_4 1 rfl ?_
  refine r_bipush (v := 24) hC dX3_itemOf_5 (by decide) ?_
  refine r_imul hC dX3_itemOf_7 ?_
  refine r_iload_n hC dX3_itemOf_8 2 rfl ?_
  refine r_iadd hC dX3_itemOf_9 ?_
  obtain ⟨g1, hf⟩ := og_in hf
  refine r_lald hC dC_36 g1 dX3_itemOf_10 ?_
  have hf := Option.some.inj hf
  subst hf
  exact r_lret hC dX3_itemOf_11 hk
set_option maxHeartbeats 4000000 in
set_option maxRecDepth 100000 in
theorem c_X3_itemOf {l : Launch} {G : zG} {u : zS} {v1 : Int32} {v2 : Int32} {r : Int64} (hf : f_X3_itemOf u v1 v2 = some r) : zM l dscC yX3_itemOf cX3_itemOf 3 (some .long) rm_X3_itemOf G [.ref (G.1 33), .int v1, .int v2] u (some (.long r)) u := zM.of (by decide) (Nat.le_of_ble_eq_true rfl) (fun X hC => t_X3_itemOf hC r hf ⟨rfl, rfl⟩)
set_option maxHeartbeats 4000000 in
set_option maxRecDepth 100000 in
theorem t_X3_lowestBits {l : Launch} {G : zG} {X : zX} {K : Option Value → zS → Prop} (hC : zC G X cX3_lowestBits 3 RX3 (some .long)) {u : zS} {v0 : Int32} {v1 : Int64} (o : Int64) (hf : f_X3_lowestBits v0 v1 = o) (hk : K (some (.long o)) u) : zW dscC l rm_X3_lowestBits G X K u 0 [(0, .int v0), (1, .long v1)] [] := by
  unfold f_X3_lowestBits at hf
  refine r_iload_n hC dX3_lowestBits_0 0 rfl ?_
  by_cases s1 : v0 = 0
  · have hf := ite_t s1 hf
    refine r_tsIn (q := 0) (off := 27) (tgt := 28) hC dX3_lowestBits_1 s1 (by decide) (by decide) ?_
    refine r_lload_n hC dX3_lowestBits_28 1 rfl ?_
    refine r_l2i hC dX3_lowestBits_29 ?_
    refine r_i2b hC dX3_lowestBits_30 ?_
    refine r_i2l hC dX3_lowestBits_31 ?_
    subst hf
    exact r_lret hC dX3_lowestBits_32 hk
  · have hf := ite_f s1 hf
    by_cases s2 : v0 = 1
    · have hf := ite_t s2 hf
      refine r_tsIn (q := 1) (off := 32) (tgt := 33) hC dX3_lowestBits_1 s2 (by decide) (by decide) ?_
      refine r_lload_n hC dX3_lowestBits_33 1 rfl ?_
      refine r_l2i hC dX3_lowestBits_34 ?_
      refine r_i2s hC dX3_lowestBits_35 ?_
      refine r_i2l hC dX3_lowestBits_36 ?_
      subst hf
      exact r_lret hC dX3_lowestBits_37 hk
    · have hf := ite_f s2 hf
      by_cases s3 : v0 = 2
      · have hf := ite_t s3 hf
        refine r_tsIn (q := 2) (off := 37) (tgt := 38) hC dX3_lowestBits_1 s3 (by decide) (by decide) ?_
        refine r_lload_n hC dX3_lowestBits_38 1 rfl ?_
        refine r_l2i hC dX3_lowestBits_39 ?_
        refine r_i2l hC dX3_lowestBits_40 ?_
        subst hf
        exact r_lret hC dX3_lowestBits_41 hk
      · have hf := ite_f s3 hf
        refine r_tsOut (tgt := 42) hC dX3_lowestBits_1 (by have zs1 := lv_neT (a := 0) s1 rfl; have zs2 := lv_neT (a := 1) s2 rfl; have zs3 := lv_neT (a := 2) s3 rfl; omega) (by decide) ?_
        refine r_lload_n hC dX3_lowestBits_42 1 rfl ?_
        subst hf
        exact r_lret hC dX3_lowestBits_43 hk
set_option maxHeartbeats 4000000 in
set_option maxRecDepth 100000 in
theorem c_X3_lowestBits {l : Launch} {G : zG} {u : zS} {v0 : Int32} {v1 : Int64} : zM l dscC yX3_lowestBits cX3_lowestBits 3 (some .long) rm_X3_lowestBits G [.int v0, .long v1] u (some (.long (f_X3_lowestBits v0 v1))) u := zM.of (by decide) (Nat.le_of_ble_eq_true rfl) (fun X hC => t_X3_lowestBits hC _ rfl ⟨rfl, rfl⟩)
set_option maxHeartbeats 4000000 in
set_option maxRecDepth 100000 in
theorem t_X3_put {l : Launch} {G : zG} {X : zX} {K : Option Value → zS → Prop} (hC : zC G X cX3_put 5 RX3 none) {u : zS} {v1 : Int32} {v2 : Int32} {v3 : Int64} (o : zS) (hf : f_X3_put u v1 v2 v3 = some o) (hk : K none o) : zW dscC l rm_X3_put G X K u 0 [(0, .ref (G.1 33)), (1, .int v1), (2, .int v2), (3, .long v3)] [] := by
  unfold f_X3_put at hf
  refine r_aload_n hC dX3_put_0 0 rfl ?_
  refine r_getr hC fd_RX3_18 dC_33 rfl dX3_put_1 ?_
  refine r_iload_n hC dX3_put_4 1 rfl ?_
  refine r_bipush (v := 24) hC dX3_put_5 (by decide) ?_
  refine r_imul hC dX3_put_7 ?_
  refine r_iload_n hC dX3_put_8 2 rfl ?_
  refine r_iadd hC dX3_put_9 ?_
  refine r_aload_n hC dX3_put_10 0 rfl ?_
  refine r_getr hC fd_RX3_9 dC_33 rfl dX3_put_11 ?_
  refine r_iload_n hC dX3_put_14 1 rfl ?_
  obtain ⟨g1, hf⟩ := og_in hf
  refine r_iald hC dC_34 g1 dX3_put_15 ?_
  refine r_lload_n hC dX3_put_16 3 rfl ?_
  refine r_csl (As := [.int (u.1 34 (Int32.toNatClampNeg v1)), .long v3]) (rest := [.int ((v1 * 24) + v2), .ref (G.1 36)]) hC c_X3_lowestBits ys_X3_lowestBits ml_RX3_30 ⟨by decide, by decide, rfl, rfl⟩ rfl rfl (Nat.le_of_ble_eq_true rfl) dX3_put_17 ?_
  obtain ⟨g2, hf⟩ := og_in hf
  refine r_last hC dC_36 g2 dX3_put_20 ?_
  refine r_tops (fun u3 eu3 => ?_)
  have hf := olet_at eu3 hf
  have hf := Option.some.inj hf
  subst hf
  exact r_vret hC dX3_put_21 hk
set_option maxHeartbeats 4000000 in
set_option maxRecDepth 100000 in
theorem c_X3_put {l : Launch} {G : zG} {u : zS} {v1 : Int32} {v2 : Int32} {v3 : Int64} {r : zS} (hf : f_X3_put u v1 v2 v3 = some r) : zM l dscC yX3_put cX3_put 5 none rm_X3_put G [.ref (G.1 33), .int v1, .int v2, .long v3] u none r := zM.of (by decide) (Nat.le_of_ble_eq_true rfl) (fun X hC => t_X3_put hC r hf ⟨rfl, rfl⟩)
set_option maxHeartbeats 4000000 in
set_option maxRecDepth 100000 in
theorem t_X3_carry {l : Launch} {G : zG} {X : zX} {K : Option Value → zS → Prop} (hC : zC G X cX3_carry 6 RX3 none) {u : zS} {v1 : Int32} {v2 : Int32} {v3 : Int32} {v4 : Int32} {v5 : Int32} (o : zS) (hf : f_X3_carry u v1 v2 v3 v4 v5 = some o) (hk : K none o) : zW dscC l rm_X3_carry G X K u 0 [(0, .ref (G.1 33)), (1, .int v1), (2, .int v2), (3, .int v3), (4, .int v4), (5, .int v5)] [] := by
  unfold f_X3_carry at hf
  refine r_aload_n hC dX3_carry_0 0 rfl ?_
  refine r_getr hC fd_RX3_18 dC_33 rfl dX3_carry_1 ?_
  refine r_iload_n hC dX3_carry_4 1 rfl ?_
  refine r_bipush (v := 24) hC dX3_carry_5 (by decide) ?_
  refine r_imul hC dX3_carry_7 ?_
  refine r_iload_n hC dX3_carry_8 2 rfl ?_
  refine r_iadd hC dX3_carry_9 ?_
  refine r_aload_n hC dX3_carry_10 0 rfl ?_
  refine r_getr hC fd_RX3_18 dC_33 rfl dX3_carry_11 ?_
  refine r_iload_n hC dX3_carry_14 3 rfl ?_
  refine r_bipush (v := 24) hC dX3_carry_15 (by decide) ?_
  refine r_imul hC dX3_carry_17 ?_
  refine r_iload hC dX3_carry_18 4 rfl ?_
  refine r_iadd hC dX3_carry_20 ?_
  refine r_iload hC dX3_carry_21 5 rfl ?_
  obtain ⟨g1, hf⟩ := og_cp hf
  refine r_cpl hC ac_RX3_34 dC_36 dC_36 g1 (by decide) dX3_carry_23 ?_
  refine r_tops (fun u2 eu2 => ?_)
  have hf := olet_at eu2 hf
  have hf := Option.some.inj hf
  subst hf
  exact r_vret hC dX3_carry_26 hk
set_option maxHeartbeats 4000000 in
set_option maxRecDepth 100000 in
theorem c_X3_carry {l : Launch} {G : zG} {u : zS} {v1 : Int32} {v2 : Int32} {v3 : Int32} {v4 : Int32} {v5 : Int32} {r : zS} (hf : f_X3_carry u v1 v2 v3 v4 v5 = some r) : zM l dscC yX3_carry cX3_carry 6 none rm_X3_carry G [.ref (G.1 33), .int v1, .int v2, .int v3, .int v4, .int v5] u none r := zM.of (by decide) (Nat.le_of_ble_eq_true rfl) (fun X hC => t_X3_carry hC r hf ⟨rfl, rfl⟩)
set_option maxHeartbeats 4000000 in
set_option maxRecDepth 100000 in
theorem t_X4_isFull {l : Launch} {G : zG} {X : zX} {K : Option Value → zS → Prop} (hC : zC G X cX4_isFull 1 RX4 (some .boolean)) {u : zS} (o : Int32) (hf : f_X4_isFull u = o) (hk : K (some (.int o)) u) : zW dscC l rm_X4_isFull G X K u 0 [(0, .ref (G.1 31))] [] := by
  unfold f_X4_isFull at hf
  refine r_aload_n hC dX4_isFull_0 0 rfl ?_
  refine r_geti hC fd_RX4_15 dC_31 rfl dX4_isFull_1 ?_
  refine r_bipush (v := 60) hC dX4_isFull_4 (by decide) ?_
  refine r_icmp_lt (tgt := 13) hC dX4_isFull_6 (by decide) (fun c1 => ?_) (fun c1 => ?_)
  · have hf := ite_t c1 hf
    refine r_iconst (v := 0) hC dX4_isFull_13 (by decide) ?_
    subst hf
    exact r_zret hC rfl dX4_isFull_14 hk
  · have hf := ite_f c1 hf
    refine r_iconst (v := 1) hC dX4_isFull_9 (by decide) ?_
    refine r_goto (tgt := 14) hC dX4_isFull_10 (by decide) ?_
    subst hf
    exact r_zret hC rfl dX4_isFull_14 hk
set_option maxHeartbeats 4000000 in
set_option maxRecDepth 100000 in
theorem c_X4_isFull {l : Launch} {G : zG} {u : zS} : zM l dscC yX4_isFull cX4_isFull 1 (some .boolean) rm_X4_isFull G [.ref (G.1 31)] u (some (.int (f_X4_isFull u))) u := zM.of (by decide) (Nat.le_of_ble_eq_true rfl) (fun X hC => t_X4_isFull hC _ rfl ⟨rfl, rfl⟩)
set_option maxHeartbeats 4000000 in
set_option maxRecDepth 100000 in
theorem bz_X4_isFull (u : zS) : narrow .boolean (.int (f_X4_isFull u)) = .int (f_X4_isFull u) := zz_nar (by unfold f_X4_isFull; (repeat' split) <;> simp)
set_option maxHeartbeats 4000000 in
set_option maxRecDepth 100000 in
theorem t_X4_put {l : Launch} {G : zG} {X : zX} {K : Option Value → zS → Prop} (hC : zC G X cX4_put 2 RX4 (some .int)) {u : zS} {v1 : Int32} (o : Int32 × zS) (hf : f_X4_put u v1 = some o) (hk : K (some (.int o.1)) o.2) : zW dscC l rm_X4_put G X K u 0 [(0, .ref (G.1 31)), (1, .int v1)] [] := by
  unfold f_X4_put at hf
  refine r_aload_n hC dX4_put_0 0 rfl ?_
  refine r_geti hC fd_RX4_15 dC_31 rfl dX4_put_1 ?_
  refine r_bipush (v := 60) hC dX4_put_4 (by decide) ?_
  refine r_icmp_ge (tgt := 29) hC dX4_put_6 (by decide) (fun c1 => ?_) (fun c1 => ?_)
  · have hf := ite_t c1 hf
    refine r_aload_n hC dX4_put_29 0 rfl ?_
    refine r_geti hC fd_RX4_15 dC_31 rfl dX4_put_30 ?_
    have hf := Option.some.inj hf
    subst hf
    exact r_iret hC dX4_put_33 hk
  · have hf := ite_f c1 hf
    refine r_aload_n hC dX4_put_9 0 rfl ?_
    refine r_getr hC fd_RX4_11 dC_31 rfl dX4_put_10 ?_
    refine r_aload_n hC dX4_put_13 0 rfl ?_
    refine r_geti hC fd_RX4_15 dC_31 rfl dX4_put_14 ?_
    refine r_iload_n hC dX4_put_17 1 rfl ?_
    obtain ⟨g2, hf⟩ := og_in hf
    refine r_iast hC dC_32 g2 dX4_put_18 ?_
    refine r_tops (fun u3 eu3 => ?_)
    have hf := olet_at eu3 hf
    refine r_aload_n hC dX4_put_19 0 rfl ?_
    refine r_dup hC dX4_put_20 rfl ?_
    refine r_geti hC fd_RX4_15 dC_31 rfl dX4_put_21 ?_
    refine r_iconst (v := 1) hC dX4_put_24 (by decide) ?_
    refine r_iadd hC dX4_put_25 ?_
    refine r_puti hC fp_RX4_15 dC_31 rfl dX4_put_26 ?_
    refine r_tops (fun u4 eu4 => ?_)
    have hf := olet_at eu4 hf
    refine r_aload_n hC dX4_put_29 0 rfl ?_
    refine r_geti hC fd_RX4_15 dC_31 rfl dX4_put_30 ?_
    have hf := Option.some.inj hf
    subst hf
    exact r_iret hC dX4_put_33 hk
set_option maxHeartbeats 4000000 in
set_option maxRecDepth 100000 in
theorem c_X4_put {l : Launch} {G : zG} {u : zS} {v1 : Int32} {r : Int32 × zS} (hf : f_X4_put u v1 = some r) : zM l dscC yX4_put cX4_put 2 (some .int) rm_X4_put G [.ref (G.1 31), .int v1] u (some (.int r.1)) r.2 := zM.of (by decide) (Nat.le_of_ble_eq_true rfl) (fun X hC => t_X4_put hC r hf ⟨rfl, rfl⟩)
set_option maxHeartbeats 4000000 in
set_option maxRecDepth 100000 in
theorem t_X4_wipe {l : Launch} {G : zG} {X : zX} {K : Option Value → zS → Prop} (hC : zC G X cX4_wipe 1 RX4 none) {u : zS} (o : zS) (hf : f_X4_wipe u = o) (hk : K none o) : zW dscC l rm_X4_wipe G X K u 0 [(0, .ref (G.1 31))] [] := by
  unfold f_X4_wipe at hf
  refine r_aload_n hC dX4_wipe_0 0 rfl ?_
  refine r_iconst (v := 0) hC dX4_wipe_1 (by decide) ?_
  refine r_puti hC fp_RX4_15 dC_31 rfl dX4_wipe_2 ?_
  refine r_tops (fun u1 eu1 => ?_)
  have hf := olet_at eu1 hf
  subst hf
  exact r_vret hC dX4_wipe_5 hk
set_option maxHeartbeats 4000000 in
set_option maxRecDepth 100000 in
theorem c_X4_wipe {l : Launch} {G : zG} {u : zS} {r : zS} (hf : f_X4_wipe u = r) : zM l dscC yX4_wipe cX4_wipe 1 none rm_X4_wipe G [.ref (G.1 31)] u none r := zM.of (by decide) (Nat.le_of_ble_eq_true rfl) (fun X hC => t_X4_wipe hC r hf ⟨rfl, rfl⟩)
set_option maxHeartbeats 4000000 in
set_option maxRecDepth 100000 in
theorem t_X4_next_L0_B {l : Launch} {G : zG} {X : zX} {K : Option Value → zS → Prop} (hC : zC G X cX4_next 1 RX4 (some .int)) {N : Nat} {rec : zS → Option (zS)} (hrec : ∀ (u : zS) (o : zS), rec u = some o → zW dscC l rm_X4_next G X K o 38 [(0, .ref (G.1 31))] [] → zW dscC l rm_X4_next G X K u 0 [(0, .ref (G.1 31))] []) : ∀ (u : zS) (o : zS), f_X4_next_L0_B N rec u = some o → zW dscC l rm_X4_next G X K o 38 [(0, .ref (G.1 31))] [] → zW dscC l rm_X4_next G X K u 0 [(0, .ref (G.1 31))] [] := by
  intro u o hf hk
  unfold f_X4_next_L0_B at hf
  refine r_aload_n hC dX4_next_0 0 rfl ?_
  refine r_geti hC fd_RX4_19 dC_31 rfl dX4_next_1 ?_
  refine r_aload_n hC dX4_next_4 0 rfl ?_
  refine r_geti hC fd_RX4_15 dC_31 rfl dX4_next_5 ?_
  refine r_icmp_ge (tgt := 38) hC dX4_next_8 (by decide) (fun c1 => ?_) (fun c1 => ?_)
  · have hf := ite_t c1 hf
    have hf := Option.some.inj hf
    subst hf
    exact hk
  · have hf := ite_f c1 hf
    refine r_aload_n hC dX4_next_11 0 rfl ?_
    refine r_getr hC fd_RX4_11 dC_31 rfl dX4_next_12 ?_
    refine r_aload_n hC dX4_next_15 0 rfl ?_
    refine r_geti hC fd_RX4_19 dC_31 rfl dX4_next_16 ?_
    obtain ⟨g2, hf⟩ := og_in hf
    refine r_iald hC dC_32 g2 dX4_next_19 ?_
    refine r_bipush (v := 32) hC dX4_next_20 (by decide) ?_
    refine r_icmp_ne (tgt := 38) hC dX4_next_22 (by decide) (fun c3 => ?_) (fun c3 => ?_)
    · have hf := ite_f c3 hf
      have hf := Option.some.inj hf
      subst hf
      exact hk
    · have hf := ite_t c3 hf
      refine r_aload_n hC dX4_next_25 0 rfl ?_
      refine r_dup hC dX4_next_26 rfl ?_
      refine r_geti hC fd_RX4_19 dC_31 rfl dX4_next_27 ?_
      refine r_iconst (v := 1) hC dX4_next_30 (by decide) ?_
      refine r_iadd hC dX4_next_31 ?_
      refine r_puti hC fp_RX4_19 dC_31 rfl dX4_next_32 ?_
      refine r_tops (fun u4 eu4 => ?_)
      have hf := olet_at eu4 hf
      refine r_goto (tgt := 0) hC dX4_next_35 (by decide) ?_
      exact hrec u4 o hf hk
set_option maxHeartbeats 4000000 in
set_option maxRecDepth 100000 in
theorem t_X4_next_L0 {l : Launch} {G : zG} {X : zX} {K : Option Value → zS → Prop} (hC : zC G X cX4_next 1 RX4 (some .int)) {N : Nat} : ∀ (n : Nat) (u : zS) (o : zS), f_X4_next_L0 N n u = some o → zW dscC l rm_X4_next G X K o 38 [(0, .ref (G.1 31))] [] → zW dscC l rm_X4_next G X K u 0 [(0, .ref (G.1 31))] [] := by
  intro n
  induction n with
  | zero => intro u o hf; cases hf
  | succ n ih => intro u o hf hk; exact t_X4_next_L0_B hC (rec := f_X4_next_L0 N n) ih u o hf hk
set_option maxHeartbeats 4000000 in
set_option maxRecDepth 100000 in
theorem t_X4_next {l : Launch} {G : zG} {X : zX} {K : Option Value → zS → Prop} (hC : zC G X cX4_next 1 RX4 (some .int)) {N : Nat} {u : zS} (o : Int32 × zS) (hf : f_X4_next N u = some o) (hk : K (some (.int o.1)) o.2) : zW dscC l rm_X4_next G X K u 0 [(0, .ref (G.1 31))] [] := by
  unfold f_X4_next at hf
  obtain ⟨q5, eq5, hf⟩ := ob_some hf
  refine t_X4_next_L0 hC N u q5 eq5 ?_
  refine r_aload_n hC dX4_next_38 0 rfl ?_
  refine r_geti hC fd_RX4_19 dC_31 rfl dX4_next_39 ?_
  refine r_aload_n hC dX4_next_42 0 rfl ?_
  refine r_geti hC fd_RX4_15 dC_31 rfl dX4_next_43 ?_
  refine r_icmp_ge (tgt := 61) hC dX4_next_46 (by decide) (fun c6 => ?_) (fun c6 => ?_)
  · have hf := ite_t c6 hf
    refine r_iconst (v := 0) hC dX4_next_61 (by decide) ?_
    have hf := Option.some.inj hf
    subst hf
    exact r_iret hC dX4_next_62 hk
  · have hf := ite_f c6 hf
    refine r_aload_n hC dX4_next_49 0 rfl ?_
    refine r_getr hC fd_RX4_11 dC_31 rfl dX4_next_50 ?_
    refine r_aload_n hC dX4_next_53 0 rfl ?_
    refine r_geti hC fd_RX4_19 dC_31 rfl dX4_next_54 ?_
    obtain ⟨g7, hf⟩ := og_in hf
    refine r_iald hC dC_32 g7 dX4_next_57 ?_
    refine r_goto (tgt := 62) hC dX4_next_58 (by decide) ?_
    have hf := Option.some.inj hf
    subst hf
    exact r_iret hC dX4_next_62 hk
set_option maxHeartbeats 4000000 in
set_option maxRecDepth 100000 in
theorem c_X4_next {l : Launch} {G : zG} {N : Nat} {u : zS} {r : Int32 × zS} (hf : f_X4_next N u = some r) : zM l dscC yX4_next cX4_next 1 (some .int) rm_X4_next G [.ref (G.1 31)] u (some (.int r.1)) r.2 := zM.of (by decide) (Nat.le_of_ble_eq_true rfl) (fun X hC => t_X4_next hC r hf ⟨rfl, rfl⟩)
set_option maxHeartbeats 4000000 in
set_option maxRecDepth 100000 in
theorem t_X4_takes {l : Launch} {G : zG} {X : zX} {K : Option Value → zS → Prop} (hC : zC G X cX4_takes 2 RX4 (some .boolean)) {N : Nat} {u : zS} {v1 : Int32} (o : Int32 × zS) (hf : f_X4_takes N u v1 = some o) (hk : K (some (.int o.1)) o.2) : zW dscC l rm_X4_takes G X K u 0 [(0, .ref (G.1 31)), (1, .int v1)] [] := by
  unfold f_X4_takes at hf
  refine r_aload_n hC dX4_takes_0 0 rfl ?_
  obtain ⟨r1, er1, hf⟩ := ob_some hf
  refine r_cvi (As := []) (rest := []) hC (c_X4_next er1) yv_X4_next ml_RX4_34 dC_31 ⟨by decide, by decide, rfl, rfl⟩ rfl rfl (Nat.le_of_ble_eq_true rfl) dX4_takes_1 ?_
  refine r_iload_n hC dX4_takes_4 1 rfl ?_
  refine r_icmp_eq (tgt := 10) hC dX4_takes_5 (by decide) (fun c2 => ?_) (fun c2 => ?_)
  · have hf := ite_t c2 hf
    refine r_aload_n hC dX4_takes_10 0 rfl ?_
    refine r_dup hC dX4_takes_11 rfl ?_
    refine r_geti hC fd_RX4_19 dC_31 rfl dX4_takes_12 ?_
    refine r_iconst (v := 1) hC dX4_takes_15 (by decide) ?_
    refine r_iadd hC dX4_takes_16 ?_
    refine r_puti hC fp_RX4_19 dC_31 rfl dX4_takes_17 ?_
    refine r_tops (fun u3 eu3 => ?_)
    have hf := olet_at eu3 hf
    refine r_iconst (v := 1) hC dX4_takes_20 (by decide) ?_
    have hf := Option.some.inj hf
    subst hf
    exact r_zret hC rfl dX4_takes_21 hk
  · have hf := ite_f c2 hf
    refine r_iconst (v := 0) hC dX4_takes_8 (by decide) ?_
    have hf := Option.some.inj hf
    subst hf
    exact r_zret hC rfl dX4_takes_9 hk
set_option maxHeartbeats 4000000 in
set_option maxRecDepth 100000 in
theorem c_X4_takes {l : Launch} {G : zG} {N : Nat} {u : zS} {v1 : Int32} {r : Int32 × zS} (hf : f_X4_takes N u v1 = some r) : zM l dscC yX4_takes cX4_takes 2 (some .boolean) rm_X4_takes G [.ref (G.1 31), .int v1] u (some (.int r.1)) r.2 := zM.of (by decide) (Nat.le_of_ble_eq_true rfl) (fun X hC => t_X4_takes hC r hf ⟨rfl, rfl⟩)
set_option maxHeartbeats 4000000 in
set_option maxRecDepth 100000 in
theorem t_X4_readPlaces_L2_B {l : Launch} {G : zG} {X : zX} {K : Option Value → zS → Prop} (hC : zC G X cX4_readPlaces 3 RX4 (some .boolean)) {N : Nat} {rec : zS → Int32 → Option ((Int32 × zS) ⊕ (zS))} (hrec : ∀ (u : zS) (v2 : Int32) (o : (Int32 × zS) ⊕ (zS)), rec u v2 = some o → ((∀ q, o = .inl q → K (some (.int q.1)) q.2) ∧ (∀ q, o = .inr q → zW dscC l rm_X4_readPlaces G X K q 43 [] [])) → zW dscC l rm_X4_readPlaces G X K u 2 [(0, .ref (G.1 31)), (1, .ref (G.1 21)), (2, .int v2)] []) : ∀ (u : zS) (v2 : Int32) (o : (Int32 × zS) ⊕ (zS)), f_X4_readPlaces_L2_B N rec u v2 = some o → ((∀ q, o = .inl q → K (some (.int q.1)) q.2) ∧ (∀ q, o = .inr q → zW dscC l rm_X4_readPlaces G X K q 43 [] [])) → zW dscC l rm_X4_readPlaces G X K u 2 [(0, .ref (G.1 31)), (1, .ref (G.1 21)), (2, .int v2)] [] := by
  intro u v2 o hf hk
  unfold f_X4_readPlaces_L2_B at hf
  refine r_iload_n hC dX4_readPlaces_2 2 rfl ?_
  refine r_bipush (v := 8) hC dX4_readPlaces_3 (by decide) ?_
  refine r_icmp_ge (tgt := 43) hC dX4_readPlaces_5 (by decide) (fun c1 => ?_) (fun c1 => ?_)
  · have hf := ite_t c1 hf
    have hf := Option.some.inj hf
    subst hf
    refine r_loc [] rfl ?_
    exact hk.2 _ rfl
  · have hf := ite_f c1 hf
    refine r_aload_n hC dX4_readPlaces_8 0 rfl ?_
    refine r_bipush (v := 42) hC dX4_readPlaces_9 (by decide) ?_
    obtain ⟨r2, er2, hf⟩ := ob_some hf
    refine r_cvi (As := [.int 42]) (rest := []) hC (c_X4_takes er2) yv_X4_takes ml_RX4_38 dC_31 ⟨by decide, by decide, rfl, rfl⟩ rfl rfl (Nat.le_of_ble_eq_true rfl) dX4_readPlaces_11 ?_
    refine r_if_eq (tgt := 26) hC dX4_readPlaces_14 (by decide) (fun c3 => ?_) (fun c3 => ?_)
    · have hf := ite_t c3 hf
      refine r_aload_n hC dX4_readPlaces_26 0 rfl ?_
      refine r_bipush (v := 46) hC dX4_readPlaces_27 (by decide) ?_
      obtain ⟨r4, er4, hf⟩ := ob_some hf
      refine r_cvi (As := [.int 46]) (rest := []) hC (c_X4_takes er4) yv_X4_takes ml_RX4_38 dC_31 ⟨by decide, by decide, rfl, rfl⟩ rfl rfl (Nat.le_of_ble_eq_true rfl) dX4_readPlaces_29 ?_
      refine r_if_ne (tgt := 37) hC dX4_readPlaces_32 (by decide) (fun c5 => ?_) (fun c5 => ?_)
      · have hf := ite_f c5 hf
        refine r_iinc (v := 1) (lv' := [(2, .int (v2 + 1)), (0, .ref (G.1 31)), (1, .ref (G.1 21))]) hC dX4_readPlaces_37 2 rfl (by decide) (by decide) rfl ?_
        refine r_goto (tgt := 2) hC dX4_readPlaces_40 (by decide) ?_
        refine r_loc [1, 2, 0] rfl ?_
        exact hrec r4.2 (v2 + 1) o hf hk
      · have hf := ite_t c5 hf
        refine r_iconst (v := 0) hC dX4_readPlaces_35 (by decide) ?_
        have hf := Option.some.inj hf
        subst hf
        exact r_zret hC rfl dX4_readPlaces_36 (hk.1 _ rfl)
    · have hf := ite_f c3 hf
      refine r_aload_n hC dX4_readPlaces_17 1 rfl ?_
      refine r_iload_n hC dX4_readPlaces_18 2 rfl ?_
      obtain ⟨r6, er6, hf⟩ := ob_some hf
      refine r_cvi (As := [.int v2]) (rest := []) hC (c_X1_addAngel isR_21 er6) yv_X1_addAngel ml_RX4_42 dC_21 ⟨by decide, by decide, rfl, rfl⟩ rfl rfl (Nat.le_of_ble_eq_true rfl) dX4_readPlaces_19 ?_
      refine r_pop hC dX4_readPlaces_22 rfl ?_
      refine r_goto (tgt := 37) hC dX4_readPlaces_23 (by decide) ?_
      refine r_iinc (v := 1) (lv' := [(2, .int (v2 + 1)), (0, .ref (G.1 31)), (1, .ref (G.1 21))]) hC dX4_readPlaces_37 2 rfl (by decide) (by decide) rfl ?_
      refine r_goto (tgt := 2) hC dX4_readPlaces_40 (by decide) ?_
      refine r_loc [1, 2, 0] rfl ?_
      exact hrec r6.2 (v2 + 1) o hf hk
set_option maxHeartbeats 4000000 in
set_option maxRecDepth 100000 in
theorem t_X4_readPlaces_L2 {l : Launch} {G : zG} {X : zX} {K : Option Value → zS → Prop} (hC : zC G X cX4_readPlaces 3 RX4 (some .boolean)) {N : Nat} : ∀ (n : Nat) (u : zS) (v2 : Int32) (o : (Int32 × zS) ⊕ (zS)), f_X4_readPlaces_L2 N n u v2 = some o → ((∀ q, o = .inl q → K (some (.int q.1)) q.2) ∧ (∀ q, o = .inr q → zW dscC l rm_X4_readPlaces G X K q 43 [] [])) → zW dscC l rm_X4_readPlaces G X K u 2 [(0, .ref (G.1 31)), (1, .ref (G.1 21)), (2, .int v2)] [] := by
  intro n
  induction n with
  | zero => intro u v2 o hf; cases hf
  | succ n ih => intro u v2 o hf hk; exact t_X4_readPlaces_L2_B hC (rec := f_X4_readPlaces_L2 N n) ih u v2 o hf hk
set_option maxHeartbeats 4000000 in
set_option maxRecDepth 100000 in
theorem t_X4_readPlaces {l : Launch} {G : zG} {X : zX} {K : Option Value → zS → Prop} (hC : zC G X cX4_readPlaces 3 RX4 (some .boolean)) {N : Nat} {u : zS} (o : Int32 × zS) (hf : f_X4_readPlaces N u = some o) (hk : K (some (.int o.1)) o.2) : zW dscC l rm_X4_readPlaces G X K u 0 [(0, .ref (G.1 31)), (1, .ref (G.1 21))] [] := by
  unfold f_X4_readPlaces at hf
  refine r_iconst (v := 0) hC dX4_readPlaces_0 (by decide) ?_
  refine r_istore_n (lv' := [(2, .int 0), (0, .ref (G.1 31)), (1, .ref (G.1 21))]) hC dX4_readPlaces_1 rfl (by decide) rfl ?_
  refine r_loc [1, 2, 0] rfl ?_
  rcases os_some hf with ⟨q8, eq7, hf⟩ | ⟨q7, eq7, hf⟩
  · have hf := Option.some.inj hf
    subst hf
    exact t_X4_readPlaces_L2 hC N u 0 _ eq7 ⟨fun _ h9 => by cases h9; exact hk, fun _ h9 => by cases h9⟩
  refine t_X4_readPlaces_L2 hC N u 0 _ eq7 ⟨fun _ h9 => (by cases h9), fun _ h9 => ?_⟩
  cases h9
  refine r_iconst (v := 1) hC dX4_readPlaces_43 (by decide) ?_
  have hf := Option.some.inj hf
  subst hf
  exact r_zret hC rfl dX4_readPlaces_44 hk
set_option maxHeartbeats 4000000 in
set_option maxRecDepth 100000 in
theorem c_X4_readPlaces {l : Launch} {G : zG} {N : Nat} {u : zS} {r : Int32 × zS} (hf : f_X4_readPlaces N u = some r) : zM l dscC yX4_readPlaces cX4_readPlaces 3 (some .boolean) rm_X4_readPlaces G [.ref (G.1 31), .ref (G.1 21)] u (some (.int r.1)) r.2 := zM.of (by decide) (Nat.le_of_ble_eq_true rfl) (fun X hC => t_X4_readPlaces hC r hf ⟨rfl, rfl⟩)
set_option maxHeartbeats 4000000 in
set_option maxRecDepth 100000 in
theorem t_X4_kindOf {l : Launch} {G : zG} {X : zX} {K : Option Value → zS → Prop} (hC : zC G X cX4_kindOf 1 RX4 (some .int)) {u : zS} {v0 : Int32} (o : Int32) (hf : f_X4_kindOf v0 = o) (hk : K (some (.int o)) u) : zW dscC l rm_X4_kindOf G X K u 0 [(0, .int v0)] [] := by
  unfold f_X4_kindOf at hf
  refine r_iload_n hC dX4_kindOf_0 0 rfl ?_
  by_cases s1 : v0 = 99
  · have hf := ite_t s1 hf
    refine r_lsw (off := 59) (tgt := 60) hC dX4_kindOf_1 (by decide) (by rw [s1]; decide) (by decide) ?_
    refine r_iconst (v := 4) hC dX4_kindOf_60 (by decide) ?_
    subst hf
    exact r_iret hC dX4_kindOf_61 hk
  · have hf := ite_f s1 hf
    by_cases s2 : v0 = 101
    · have hf := ite_t s2 hf
      refine r_lsw (off := 53) (tgt := 54) hC dX4_kindOf_1 (by decide) (by rw [s2]; decide) (by decide) ?_
      refine r_iconst (v := 1) hC dX4_kindOf_54 (by decide) ?_
      subst hf
      exact r_iret hC dX4_kindOf_55 hk
    · have hf := ite_f s2 hf
      by_cases s3 : v0 = 104
      · have hf := ite_t s3 hf
        refine r_lsw (off := 57) (tgt := 58) hC dX4_kindOf_1 (by decide) (by rw [s3]; decide) (by decide) ?_
        refine r_iconst (v := 3) hC dX4_kindOf_58 (by decide) ?_
        subst hf
        exact r_iret hC dX4_kindOf_59 hk
      · have hf := ite_f s3 hf
        by_cases s4 : v0 = 109
        · have hf := ite_t s4 hf
          refine r_lsw (off := 55) (tgt := 56) hC dX4_kindOf_1 (by decide) (by rw [s4]; decide) (by decide) ?_
          refine r_iconst (v := 2) hC dX4_kindOf_56 (by decide) ?_
          subst hf
          exact r_iret hC dX4_kindOf_57 hk
        · have hf := ite_f s4 hf
          by_cases s5 : v0 = 114
          · have hf := ite_t s5 hf
            refine r_lsw (off := 51) (tgt := 52) hC dX4_kindOf_1 (by decide) (by rw [s5]; decide) (by decide) ?_
            refine r_iconst (v := 0) hC dX4_kindOf_52 (by decide) ?_
            subst hf
            exact r_iret hC dX4_kindOf_53 hk
          · have hf := ite_f s5 hf
            refine r_lsw (off := 61) (tgt := 62) hC dX4_kindOf_1 (by decide) (by rw [lv_osw s1 (by decide)]; rw [lv_osw s2 (by decide)]; rw [lv_osw s3 (by decide)]; rw [lv_osw s4 (by decide)]; rw [lv_osw s5 (by decide)]; rfl) (by decide) ?_
            refine r_bipush (v := (-4)) hC dX4_kindOf_62 (by decide) ?_
            subst hf
            exact r_iret hC dX4_kindOf_64 hk
set_option maxHeartbeats 4000000 in
set_option maxRecDepth 100000 in
theorem c_X4_kindOf {l : Launch} {G : zG} {u : zS} {v0 : Int32} : zM l dscC yX4_kindOf cX4_kindOf 1 (some .int) rm_X4_kindOf G [.int v0] u (some (.int (f_X4_kindOf v0))) u := zM.of (by decide) (Nat.le_of_ble_eq_true rfl) (fun X hC => t_X4_kindOf hC _ rfl ⟨rfl, rfl⟩)
set_option maxHeartbeats 4000000 in
set_option maxRecDepth 100000 in
theorem t_X4_takeDigit {l : Launch} {G : zG} {X : zX} {K : Option Value → zS → Prop} (hC : zC G X cX4_takeDigit 3 RX4 (some .int)) {N : Nat} {u : zS} {v1 : Int32} (o : Int32 × zS) (hf : f_X4_takeDigit N u v1 = some o) (hk : K (some (.int o.1)) o.2) : zW dscC l rm_X4_takeDigit G X K u 0 [(0, .ref (G.1 31)), (1, .int v1)] [] := by
  unfold f_X4_takeDigit at hf
  refine r_aload_n hC dX4_takeDigit_0 0 rfl ?_
  obtain ⟨r1, er1, hf⟩ := ob_some hf
  refine r_cvi (As := []) (rest := []) hC (c_X4_next er1) yv_X4_next ml_RX4_34 dC_31 ⟨by decide, by decide, rfl, rfl⟩ rfl rfl (Nat.le_of_ble_eq_true rfl) dX4_takeDigit_1 ?_
  refine r_bipush (v := 48) hC dX4_takeDigit_4 (by decide) ?_
  refine r_isub hC dX4_takeDigit_6 ?_
  refine r_istore_n (lv' := [(2, .int (r1.1 - 48)), (0, .ref (G.1 31)), (1, .int v1)]) hC dX4_takeDigit_7 rfl (by decide) rfl ?_
  refine r_iload_n hC dX4_takeDigit_8 0 rfl ?_
  refine r_if_lt (tgt := 17) hC dX4_takeDigit_9 (by decide) (fun c2 => ?_) (fun c2 => ?_)
  · have hf := ite_t c2 hf
    refine r_bipush (v := (-4)) hC dX4_takeDigit_17 (by decide) ?_
    have hf := Option.some.inj hf
    subst hf
    exact r_iret hC dX4_takeDigit_19 hk
  · have hf := ite_f c2 hf
    refine r_iload_n hC dX4_takeDigit_12 0 rfl ?_
    refine r_iload_n hC dX4_takeDigit_13 2 rfl ?_
    refine r_icmp_lt (tgt := 20) hC dX4_takeDigit_14 (by decide) (fun c3 => ?_) (fun c3 => ?_)
    · have hf := ite_t c3 hf
      refine r_aload_n hC dX4_takeDigit_20 1 rfl ?_
      refine r_dup hC dX4_takeDigit_21 rfl ?_
      refine r_geti hC fd_RX4_19 dC_31 rfl dX4_takeDigit_22 ?_
      refine r_iconst (v := 1) hC dX4_takeDigit_25 (by decide) ?_
      refine r_iadd hC dX4_takeDigit_26 ?_
      refine r_puti hC fp_RX4_19 dC_31 rfl dX4_takeDigit_27 ?_
      refine r_tops (fun u4 eu4 => ?_)
      have hf := olet_at eu4 hf
      refine r_iload_n hC dX4_takeDigit_30 0 rfl ?_
      have hf := Option.some.inj hf
      subst hf
      exact r_iret hC dX4_takeDigit_31 hk
    · have hf := ite_f c3 hf
      refine r_bipush (v := (-4)) hC dX4_takeDigit_17 (by decide) ?_
      have hf := Option.some.inj hf
      subst hf
      exact r_iret hC dX4_takeDigit_19 hk
set_option maxHeartbeats 4000000 in
set_option maxRecDepth 100000 in
theorem c_X4_takeDigit {l : Launch} {G : zG} {N : Nat} {u : zS} {v1 : Int32} {r : Int32 × zS} (hf : f_X4_takeDigit N u v1 = some r) : zM l dscC yX4_takeDigit cX4_takeDigit 3 (some .int) rm_X4_takeDigit G [.ref (G.1 31), .int v1] u (some (.int r.1)) r.2 := zM.of (by decide) (Nat.le_of_ble_eq_true rfl) (fun X hC => t_X4_takeDigit hC r hf ⟨rfl, rfl⟩)
set_option maxHeartbeats 4000000 in
set_option maxRecDepth 100000 in
theorem t_X4_readFigure {l : Launch} {G : zG} {X : zX} {K : Option Value → zS → Prop} (hC : zC G X cX4_readFigure 4 RX4 (some .boolean)) {N : Nat} {u : zS} (o : Int32 × zS) (hf : f_X4_readFigure N u = some o) (hk : K (some (.int o.1)) o.2) : zW dscC l rm_X4_readFigure G X K u 0 [(0, .ref (G.1 31)), (1, .ref (G.1 21))] [] := by
  unfold f_X4_readFigure at hf
  refine r_aload_n hC dX4_readFigure_0 0 rfl ?_
  obtain ⟨r1, er1, hf⟩ := ob_some hf
  refine r_cvi (As := []) (rest := []) hC (c_X4_next er1) yv_X4_next ml_RX4_34 dC_31 ⟨by decide, by decide, rfl, rfl⟩ rfl rfl (Nat.le_of_ble_eq_true rfl) dX4_readFigure_1 ?_
  refine r_csi (As := [.int r1.1]) (rest := []) hC c_X4_kindOf ys_X4_kindOf ml_RX4_52 ⟨by decide, by decide, rfl, rfl⟩ rfl rfl (Nat.le_of_ble_eq_true rfl) dX4_readFigure_4 ?_
  refine r_topi (fun w2 ew2 => ?_)
  have hf := olet_at ew2 hf
  refine r_istore_n (lv' := [(2, .int w2), (0, .ref (G.1 31)), (1, .ref (G.1 21))]) hC dX4_readFigure_7 rfl (by decide) rfl ?_
  refine r_iload_n hC dX4_readFigure_8 0 rfl ?_
  refine r_bipush (v := (-4)) hC dX4_readFigure_9 (by decide) ?_
  refine r_icmp_ne (tgt := 16) hC dX4_readFigure_11 (by decide) (fun c3 => ?_) (fun c3 => ?_)
  · have hf := ite_f c3 hf
    refine r_aload_n hC dX4_readFigure_16 1 rfl ?_
    refine r_dup hC dX4_readFigure_17 rfl ?_
    refine r_geti hC fd_RX4_19 dC_31 rfl dX4_readFigure_18 ?_
    refine r_iconst (v := 1) hC dX4_readFigure_21 (by decide) ?_
    refine r_iadd hC dX4_readFigure_22 ?_
    refine r_puti hC fp_RX4_19 dC_31 rfl dX4_readFigure_23 ?_
    refine r_tops (fun u4 eu4 => ?_)
    have hf := olet_at eu4 hf
    refine r_aload_n hC dX4_readFigure_26 1 rfl ?_
    refine r_bipush (v := 8) hC dX4_readFigure_27 (by decide) ?_
    obtain ⟨r5, er5, hf⟩ := ob_some hf
    refine r_cvi (As := [.int 8]) (rest := []) hC (c_X4_takeDigit er5) yv_X4_takeDigit ml_RX4_55 dC_31 ⟨by decide, by decide, rfl, rfl⟩ rfl rfl (Nat.le_of_ble_eq_true rfl) dX4_readFigure_29 ?_
    refine r_istore_n (lv' := [(3, .int r5.1), (2, .int w2), (0, .ref (G.1 31)), (1, .ref (G.1 21))]) hC dX4_readFigure_32 rfl (by decide) rfl ?_
    refine r_iload_n hC dX4_readFigure_33 0 rfl ?_
    refine r_bipush (v := (-4)) hC dX4_readFigure_34 (by decide) ?_
    refine r_icmp_ne (tgt := 41) hC dX4_readFigure_36 (by decide) (fun c6 => ?_) (fun c6 => ?_)
    · have hf := ite_f c6 hf
      refine r_aload_n hC dX4_readFigure_41 3 rfl ?_
      refine r_iload_n hC dX4_readFigure_42 1 rfl ?_
      refine r_iload_n hC dX4_readFigure_43 0 rfl ?_
      obtain ⟨r7, er7, hf⟩ := ob_some hf
      refine r_cvi (As := [.int w2, .int r5.1]) (rest := []) hC (c_X1_addFigure isR_21 er7) yv_X1_addFigure ml_RX4_58 dC_21 ⟨by decide, by decide, rfl, rfl⟩ rfl rfl (Nat.le_of_ble_eq_true rfl) dX4_readFigure_44 ?_
      refine r_pop hC dX4_readFigure_47 rfl ?_
      refine r_iconst (v := 1) hC dX4_readFigure_48 (by decide) ?_
      have hf := Option.some.inj hf
      subst hf
      exact r_zret hC rfl dX4_readFigure_49 hk
    · have hf := ite_t c6 hf
      refine r_iconst (v := 0) hC dX4_readFigure_39 (by decide) ?_
      have hf := Option.some.inj hf
      subst hf
      exact r_zret hC rfl dX4_readFigure_40 hk
  · have hf := ite_t c3 hf
    refine r_iconst (v := 0) hC dX4_readFigure_14 (by decide) ?_
    have hf := Option.some.inj hf
    subst hf
    exact r_zret hC rfl dX4_readFigure_15 hk
set_option maxHeartbeats 4000000 in
set_option maxRecDepth 100000 in
theorem c_X4_readFigure {l : Launch} {G : zG} {N : Nat} {u : zS} {r : Int32 × zS} (hf : f_X4_readFigure N u = some r) : zM l dscC yX4_readFigure cX4_readFigure 4 (some .boolean) rm_X4_readFigure G [.ref (G.1 31), .ref (G.1 21)] u (some (.int r.1)) r.2 := zM.of (by decide) (Nat.le_of_ble_eq_true rfl) (fun X hC => t_X4_readFigure hC r hf ⟨rfl, rfl⟩)
set_option maxHeartbeats 4000000 in
set_option maxRecDepth 100000 in
theorem t_X4_readTune_L13_B {l : Launch} {G : zG} {X : zX} {K : Option Value → zS → Prop} (hC : zC G X cX4_readTune 4 RX4 (some .boolean)) {N : Nat} {rec : zS → Int32 → Option (zS)} (hrec : ∀ (u : zS) (v2 : Int32) (o : zS), rec u v2 = some o → zW dscC l rm_X4_readTune G X K o 49 [(1, .ref (G.1 21))] [] → zW dscC l rm_X4_readTune G X K u 13 [(0, .ref (G.1 31)), (1, .ref (G.1 21)), (2, .int v2)] []) : ∀ (u : zS) (v2 : Int32) (o : zS), f_X4_readTune_L13_B N rec u v2 = some o → zW dscC l rm_X4_readTune G X K o 49 [(1, .ref (G.1 21))] [] → zW dscC l rm_X4_readTune G X K u 13 [(0, .ref (G.1 31)), (1, .ref (G.1 21)), (2, .int v2)] [] := by
  intro u v2 o hf hk
  unfold f_X4_readTune_L13_B at hf
  refine r_iload_n hC dX4_readTune_13 2 rfl ?_
  refine r_bipush (v := 16) hC dX4_readTune_14 (by decide) ?_
  refine r_icmp_ge (tgt := 49) hC dX4_readTune_16 (by decide) (fun c3 => ?_) (fun c3 => ?_)
  · have hf := ite_t c3 hf
    have hf := Option.some.inj hf
    subst hf
    refine r_loc [1] rfl ?_
    exact hk
  · have hf := ite_f c3 hf
    refine r_aload_n hC dX4_readTune_19 0 rfl ?_
    refine r_aload_n hC dX4_readTune_20 1 rfl ?_
    refine r_geti hC fd_RX4_62 dC_21 rfl dX4_readTune_21 ?_
    obtain ⟨r4, er4, hf⟩ := ob_some hf
    refine r_cvi (As := [.int (u.1 21 7)]) (rest := []) hC (c_X4_takeDigit er4) yv_X4_takeDigit ml_RX4_55 dC_31 ⟨by decide, by decide, rfl, rfl⟩ rfl rfl (Nat.le_of_ble_eq_true rfl) dX4_readTune_24 ?_
    refine r_istore_n (lv' := [(3, .int r4.1), (0, .ref (G.1 31)), (1, .ref (G.1 21)), (2, .int v2)]) hC dX4_readTune_27 rfl (by decide) rfl ?_
    refine r_iload_n hC dX4_readTune_28 0 rfl ?_
    refine r_bipush (v := (-4)) hC dX4_readTune_29 (by decide) ?_
    refine r_icmp_ne (tgt := 37) hC dX4_readTune_31 (by decide) (fun c5 => ?_) (fun c5 => ?_)
    · have hf := ite_f c5 hf
      refine r_aload_n hC dX4_readTune_37 2 rfl ?_
      refine r_iload_n hC dX4_readTune_38 0 rfl ?_
      obtain ⟨r6, er6, hf⟩ := ob_some hf
      refine r_cvi (As := [.int r4.1]) (rest := []) hC (c_X1_addToTune isR_21 er6) yv_X1_addToTune ml_RX4_65 dC_21 ⟨by decide, by decide, rfl, rfl⟩ rfl rfl (Nat.le_of_ble_eq_true rfl) dX4_readTune_39 ?_
      refine r_pop hC dX4_readTune_42 rfl ?_
      refine r_iinc (v := 1) (lv' := [(2, .int (v2 + 1)), (3, .int r4.1), (0, .ref (G.1 31)), (1, .ref (G.1 21))]) hC dX4_readTune_43 3 rfl (by decide) (by decide) rfl ?_
      refine r_goto (tgt := 13) hC dX4_readTune_46 (by decide) ?_
      refine r_loc [2, 3, 0] rfl ?_
      exact hrec r6.2 (v2 + 1) o hf hk
    · have hf := ite_t c5 hf
      refine r_goto (tgt := 49) hC dX4_readTune_34 (by decide) ?_
      have hf := Option.some.inj hf
      subst hf
      refine r_loc [2] rfl ?_
      exact hk
set_option maxHeartbeats 4000000 in
set_option maxRecDepth 100000 in
theorem t_X4_readTune_L13 {l : Launch} {G : zG} {X : zX} {K : Option Value → zS → Prop} (hC : zC G X cX4_readTune 4 RX4 (some .boolean)) {N : Nat} : ∀ (n : Nat) (u : zS) (v2 : Int32) (o : zS), f_X4_readTune_L13 N n u v2 = some o → zW dscC l rm_X4_readTune G X K o 49 [(1, .ref (G.1 21))] [] → zW dscC l rm_X4_readTune G X K u 13 [(0, .ref (G.1 31)), (1, .ref (G.1 21)), (2, .int v2)] [] := by
  intro n
  induction n with
  | zero => intro u v2 o hf; cases hf
  | succ n ih => intro u v2 o hf hk; exact t_X4_readTune_L13_B hC (rec := f_X4_readTune_L13 N n) ih u v2 o hf hk
set_option maxHeartbeats 4000000 in
set_option maxRecDepth 100000 in
theorem t_X4_readTune {l : Launch} {G : zG} {X : zX} {K : Option Value → zS → Prop} (hC : zC G X cX4_readTune 4 RX4 (some .boolean)) {N : Nat} {u : zS} (o : Int32 × zS) (hf : f_X4_readTune N u = some o) (hk : K (some (.int o.1)) o.2) : zW dscC l rm_X4_readTune G X K u 0 [(0, .ref (G.1 31)), (1, .ref (G.1 21))] [] := by
  unfold f_X4_readTune at hf
  refine r_aload_n hC dX4_readTune_0 0 rfl ?_
  refine r_bipush (v := 58) hC dX4_readTune_1 (by decide) ?_
  obtain ⟨r1, er1, hf⟩ := ob_some hf
  refine r_cvi (As := [.int 58]) (rest := []) hC (c_X4_takes er1) yv_X4_takes ml_RX4_38 dC_31 ⟨by decide, by decide, rfl, rfl⟩ rfl rfl (Nat.le_of_ble_eq_true rfl) dX4_readTune_3 ?_
  refine r_if_ne (tgt := 11) hC dX4_readTune_6 (by decide) (fun c2 => ?_) (fun c2 => ?_)
  · have hf := ite_f c2 hf
    refine r_iconst (v := 0) hC dX4_readTune_11 (by decide) ?_
    refine r_istore_n (lv' := [(2, .int 0), (0, .ref (G.1 31)), (1, .ref (G.1 21))]) hC dX4_readTune_12 rfl (by decide) rfl ?_
    refine r_loc [1, 2, 0] rfl ?_
    obtain ⟨q7, eq7, hf⟩ := ob_some hf
    refine t_X4_readTune_L13 hC N r1.2 0 q7 eq7 ?_
    refine r_aload_n hC dX4_readTune_49 0 rfl ?_
    refine r_geti hC fd_RX4_68 dC_21 rfl dX4_readTune_50 ?_
    refine r_if_le (tgt := 60) hC dX4_readTune_53 (by decide) (fun c8 => ?_) (fun c8 => ?_)
    · have hf := ite_t c8 hf
      refine r_iconst (v := 0) hC dX4_readTune_60 (by decide) ?_
      have hf := Option.some.inj hf
      subst hf
      exact r_zret hC rfl dX4_readTune_61 hk
    · have hf := ite_f c8 hf
      refine r_iconst (v := 1) hC dX4_readTune_56 (by decide) ?_
      refine r_goto (tgt := 61) hC dX4_readTune_57 (by decide) ?_
      have hf := Option.some.inj hf
      subst hf
      exact r_zret hC rfl dX4_readTune_61 hk
  · have hf := ite_t c2 hf
    refine r_iconst (v := 1) hC dX4_readTune_9 (by decide) ?_
    have hf := Option.some.inj hf
    subst hf
    exact r_zret hC rfl dX4_readTune_10 hk
set_option maxHeartbeats 4000000 in
set_option maxRecDepth 100000 in
theorem c_X4_readTune {l : Launch} {G : zG} {N : Nat} {u : zS} {r : Int32 × zS} (hf : f_X4_readTune N u = some r) : zM l dscC yX4_readTune cX4_readTune 4 (some .boolean) rm_X4_readTune G [.ref (G.1 31), .ref (G.1 21)] u (some (.int r.1)) r.2 := zM.of (by decide) (Nat.le_of_ble_eq_true rfl) (fun X hC => t_X4_readTune hC r hf ⟨rfl, rfl⟩)
set_option maxHeartbeats 4000000 in
set_option maxRecDepth 100000 in
theorem t_X4_readFigures_L13_B {l : Launch} {G : zG} {X : zX} {K : Option Value → zS → Prop} (hC : zC G X cX4_readFigures 3 RX4 (some .boolean)) {N : Nat} {rec : zS → Int32 → Option ((Int32 × zS) ⊕ (zS))} (hrec : ∀ (u : zS) (v2 : Int32) (o : (Int32 × zS) ⊕ (zS)), rec u v2 = some o → ((∀ q, o = .inl q → K (some (.int q.1)) q.2) ∧ (∀ q, o = .inr q → zW dscC l rm_X4_readFigures G X K q 50 [(0, .ref (G.1 31)), (1, .ref (G.1 21))] [])) → zW dscC l rm_X4_readFigures G X K u 13 [(0, .ref (G.1 31)), (1, .ref (G.1 21)), (2, .int v2)] []) : ∀ (u : zS) (v2 : Int32) (o : (Int32 × zS) ⊕ (zS)), f_X4_readFigures_L13_B N rec u v2 = some o → ((∀ q, o = .inl q → K (some (.int q.1)) q.2) ∧ (∀ q, o = .inr q → zW dscC l rm_X4_readFigures G X K q 50 [(0, .ref (G.1 31)), (1, .ref (G.1 21))] [])) → zW dscC l rm_X4_readFigures G X K u 13 [(0, .ref (G.1 31)), (1, .ref (G.1 21)), (2, .int v2)] [] := by
  intro u v2 o hf hk
  unfold f_X4_readFigures_L13_B at hf
  refine r_iload_n hC dX4_readFigures_13 2 rfl ?_
  refine r_iconst (v := 5) hC dX4_readFigures_14 (by decide) ?_
  refine r_icmp_ge (tgt := 50) hC dX4_readFigures_15 (by decide) (fun c3 => ?_) (fun c3 => ?_)
  · have hf := ite_t c3 hf
    have hf := Option.some.inj hf
    subst hf
    refine r_loc [0, 1] rfl ?_
    exact hk.2 _ rfl
  · have hf := ite_f c3 hf
    refine r_iload_n hC dX4_readFigures_18 2 rfl ?_
    refine r_if_le (tgt := 34) hC dX4_readFigures_19 (by decide) (fun c4 => ?_) (fun c4 => ?_)
    · have hf := ite_t c4 hf
      refine r_aload_n hC dX4_readFigures_34 0 rfl ?_
      refine r_aload_n hC dX4_readFigures_35 1 rfl ?_
      obtain ⟨r5, er5, hf⟩ := ob_some hf
      refine r_cvi (As := [.ref (G.1 21)]) (rest := []) hC (c_X4_readFigure er5) yv_X4_readFigure ml_RX4_46 dC_31 ⟨by decide, by decide, rfl, rfl⟩ rfl rfl (Nat.le_of_ble_eq_true rfl) dX4_readFigures_36 ?_
      refine r_if_ne (tgt := 44) hC dX4_readFigures_39 (by decide) (fun c6 => ?_) (fun c6 => ?_)
      · have hf := ite_f c6 hf
        refine r_iinc (v := 1) (lv' := [(2, .int (v2 + 1)), (0, .ref (G.1 31)), (1, .ref (G.1 21))]) hC dX4_readFigures_44 2 rfl (by decide) (by decide) rfl ?_
        refine r_goto (tgt := 13) hC dX4_readFigures_47 (by decide) ?_
        refine r_loc [1, 2, 0] rfl ?_
        exact hrec r5.2 (v2 + 1) o hf hk
      · have hf := ite_t c6 hf
        refine r_iconst (v := 0) hC dX4_readFigures_42 (by decide) ?_
        have hf := Option.some.inj hf
        subst hf
        exact r_zret hC rfl dX4_readFigures_43 (hk.1 _ rfl)
    · have hf := ite_f c4 hf
      refine r_aload_n hC dX4_readFigures_22 0 rfl ?_
      refine r_bipush (v := 44) hC dX4_readFigures_23 (by decide) ?_
      obtain ⟨r7, er7, hf⟩ := ob_some hf
      refine r_cvi (As := [.int 44]) (rest := []) hC (c_X4_takes er7) yv_X4_takes ml_RX4_38 dC_31 ⟨by decide, by decide, rfl, rfl⟩ rfl rfl (Nat.le_of_ble_eq_true rfl) dX4_readFigures_25 ?_
      refine r_if_ne (tgt := 34) hC dX4_readFigures_28 (by decide) (fun c8 => ?_) (fun c8 => ?_)
      · have hf := ite_f c8 hf
        refine r_aload_n hC dX4_readFigures_34 0 rfl ?_
        refine r_aload_n hC dX4_readFigures_35 1 rfl ?_
        obtain ⟨r9, er9, hf⟩ := ob_some hf
        refine r_cvi (As := [.ref (G.1 21)]) (rest := []) hC (c_X4_readFigure er9) yv_X4_readFigure ml_RX4_46 dC_31 ⟨by decide, by decide, rfl, rfl⟩ rfl rfl (Nat.le_of_ble_eq_true rfl) dX4_readFigures_36 ?_
        refine r_if_ne (tgt := 44) hC dX4_readFigures_39 (by decide) (fun c10 => ?_) (fun c10 => ?_)
        · have hf := ite_f c10 hf
          refine r_iinc (v := 1) (lv' := [(2, .int (v2 + 1)), (0, .ref (G.1 31)), (1, .ref (G.1 21))]) hC dX4_readFigures_44 2 rfl (by decide) (by decide) rfl ?_
          refine r_goto (tgt := 13) hC dX4_readFigures_47 (by decide) ?_
          refine r_loc [1, 2, 0] rfl ?_
          exact hrec r9.2 (v2 + 1) o hf hk
        · have hf := ite_t c10 hf
          refine r_iconst (v := 0) hC dX4_readFigures_42 (by decide) ?_
          have hf := Option.some.inj hf
          subst hf
          exact r_zret hC rfl dX4_readFigures_43 (hk.1 _ rfl)
      · have hf := ite_t c8 hf
        refine r_goto (tgt := 50) hC dX4_readFigures_31 (by decide) ?_
        have hf := Option.some.inj hf
        subst hf
        refine r_loc [0, 1] rfl ?_
        exact hk.2 _ rfl
set_option maxHeartbeats 4000000 in
set_option maxRecDepth 100000 in
theorem t_X4_readFigures_L13 {l : Launch} {G : zG} {X : zX} {K : Option Value → zS → Prop} (hC : zC G X cX4_readFigures 3 RX4 (some .boolean)) {N : Nat} : ∀ (n : Nat) (u : zS) (v2 : Int32) (o : (Int32 × zS) ⊕ (zS)), f_X4_readFigures_L13 N n u v2 = some o → ((∀ q, o = .inl q → K (some (.int q.1)) q.2) ∧ (∀ q, o = .inr q → zW dscC l rm_X4_readFigures G X K q 50 [(0, .ref (G.1 31)), (1, .ref (G.1 21))] [])) → zW dscC l rm_X4_readFigures G X K u 13 [(0, .ref (G.1 31)), (1, .ref (G.1 21)), (2, .int v2)] [] := by
  intro n
  induction n with
  | zero => intro u v2 o hf; cases hf
  | succ n ih => intro u v2 o hf hk; exact t_X4_readFigures_L13_B hC (rec := f_X4_readFigures_L13 N n) ih u v2 o hf hk
set_option maxHeartbeats 4000000 in
set_option maxRecDepth 100000 in
theorem t_X4_readFigures {l : Launch} {G : zG} {X : zX} {K : Option Value → zS → Prop} (hC : zC G X cX4_readFigures 3 RX4 (some .boolean)) {N : Nat} {u : zS} (o : Int32 × zS) (hf : f_X4_readFigures N u = some o) (hk : K (some (.int o.1)) o.2) : zW dscC l rm_X4_readFigures G X K u 0 [(0, .ref (G.1 31)), (1, .ref (G.1 21))] [] := by
  unfold f_X4_readFigures at hf
  refine r_aload_n hC dX4_readFigures_0 0 rfl ?_
  refine r_bipush (v := 59) hC dX4_readFigures_1 (by decide) ?_
  obtain ⟨r1, er1, hf⟩ := ob_some hf
  refine r_cvi (As := [.int 59]) (rest := []) hC (c_X4_takes er1) yv_X4_takes ml_RX4_38 dC_31 ⟨by decide, by decide, rfl, rfl⟩ rfl rfl (Nat.le_of_ble_eq_true rfl) dX4_readFigures_3 ?_
  refine r_if_ne (tgt := 11) hC dX4_readFigures_6 (by decide) (fun c2 => ?_) (fun c2 => ?_)
  · have hf := ite_f c2 hf
    refine r_iconst (v := 0) hC dX4_readFigures_11 (by decide) ?_
    refine r_istore_n (lv' := [(2, .int 0), (0, .ref (G.1 31)), (1, .ref (G.1 21))]) hC dX4_readFigures_12 rfl (by decide) rfl ?_
    refine r_loc [1, 2, 0] rfl ?_
    rcases os_some hf with ⟨q12, eq11, hf⟩ | ⟨q11, eq11, hf⟩
    · have hf := Option.some.inj hf
      subst hf
      exact t_X4_readFigures_L13 hC N r1.2 0 _ eq11 ⟨fun _ h9 => by cases h9; exact hk, fun _ h9 => by cases h9⟩
    refine t_X4_readFigures_L13 hC N r1.2 0 _ eq11 ⟨fun _ h9 => (by cases h9), fun _ h9 => ?_⟩
    cases h9
    refine r_aload_n hC dX4_readFigures_50 0 rfl ?_
    refine r_aload_n hC dX4_readFigures_51 1 rfl ?_
    obtain ⟨r13, er13, hf⟩ := ob_some hf
    refine r_cvi (As := [.ref (G.1 21)]) (rest := []) hC (c_X4_readTune er13) yv_X4_readTune ml_RX4_49 dC_31 ⟨by decide, by decide, rfl, rfl⟩ rfl rfl (Nat.le_of_ble_eq_true rfl) dX4_readFigures_52 ?_
    obtain ⟨g14, hf⟩ := og_zz hf
    have hf := Option.some.inj hf
    subst hf
    exact r_zret hC g14 dX4_readFigures_55 hk
  · have hf := ite_t c2 hf
    refine r_iconst (v := 1) hC dX4_readFigures_9 (by decide) ?_
    have hf := Option.some.inj hf
    subst hf
    exact r_zret hC rfl dX4_readFigures_10 hk
set_option maxHeartbeats 4000000 in
set_option maxRecDepth 100000 in
theorem c_X4_readFigures {l : Launch} {G : zG} {N : Nat} {u : zS} {r : Int32 × zS} (hf : f_X4_readFigures N u = some r) : zM l dscC yX4_readFigures cX4_readFigures 3 (some .boolean) rm_X4_readFigures G [.ref (G.1 31), .ref (G.1 21)] u (some (.int r.1)) r.2 := zM.of (by decide) (Nat.le_of_ble_eq_true rfl) (fun X hC => t_X4_readFigures hC r hf ⟨rfl, rfl⟩)
set_option maxHeartbeats 4000000 in
set_option maxRecDepth 100000 in
theorem t_X4_readInto {l : Launch} {G : zG} {X : zX} {K : Option Value → zS → Prop} (hC : zC G X cX4_readInto 2 RX4 (some .boolean)) {N : Nat} {u : zS} (o : Int32 × zS) (hf : f_X4_readInto N u = some o) (hk : K (some (.int o.1)) o.2) : zW dscC l rm_X4_readInto G X K u 0 [(0, .ref (G.1 31)), (1, .ref (G.1 21))] [] := by
  unfold f_X4_readInto at hf
  refine r_aload_n hC dX4_readInto_0 0 rfl ?_
  refine r_iconst (v := 0) hC dX4_readInto_1 (by decide) ?_
  refine r_puti hC fp_RX4_19 dC_31 rfl dX4_readInto_2 ?_
  refine r_tops (fun u1 eu1 => ?_)
  have hf := olet_at eu1 hf
  refine r_aload_n hC dX4_readInto_5 1 rfl ?_
  obtain ⟨r2, er2⟩ : ∃ z, z = f_X1_clear 21 u1 := ⟨_, rfl⟩
  have hf := olet_at er2 hf
  refine r_cvv (As := []) (rest := []) hC (c_X1_clear isR_21 (r := r2) er2.symm) yv_X1_clear ml_RX4_22 dC_21 ⟨by decide, by decide, rfl, rfl⟩ rfl rfl (Nat.le_of_ble_eq_true rfl) dX4_readInto_6 ?_
  refine r_aload_n hC dX4_readInto_9 0 rfl ?_
  refine r_aload_n hC dX4_readInto_10 1 rfl ?_
  obtain ⟨r3, er3, hf⟩ := ob_some hf
  refine r_cvi (As := [.ref (G.1 21)]) (rest := []) hC (c_X4_readPlaces er3) yv_X4_readPlaces ml_RX4_27 dC_31 ⟨by decide, by decide, rfl, rfl⟩ rfl rfl (Nat.le_of_ble_eq_true rfl) dX4_readInto_11 ?_
  refine r_if_eq (tgt := 36) hC dX4_readInto_14 (by decide) (fun c4 => ?_) (fun c4 => ?_)
  · have hf := ite_t c4 hf
    refine r_iconst (v := 0) hC dX4_readInto_36 (by decide) ?_
    have hf := Option.some.inj hf
    subst hf
    exact r_zret hC rfl dX4_readInto_37 hk
  · have hf := ite_f c4 hf
    refine r_aload_n hC dX4_readInto_17 0 rfl ?_
    refine r_aload_n hC dX4_readInto_18 1 rfl ?_
    obtain ⟨r5, er5, hf⟩ := ob_some hf
    refine r_cvi (As := [.ref (G.1 21)]) (rest := []) hC (c_X4_readFigures er5) yv_X4_readFigures ml_RX4_31 dC_31 ⟨by decide, by decide, rfl, rfl⟩ rfl rfl (Nat.le_of_ble_eq_true rfl) dX4_readInto_19 ?_
    refine r_if_eq (tgt := 36) hC dX4_readInto_22 (by decide) (fun c6 => ?_) (fun c6 => ?_)
    · have hf := ite_t c6 hf
      refine r_iconst (v := 0) hC dX4_readInto_36 (by decide) ?_
      have hf := Option.some.inj hf
      subst hf
      exact r_zret hC rfl dX4_readInto_37 hk
    · have hf := ite_f c6 hf
      refine r_aload_n hC dX4_readInto_25 0 rfl ?_
      obtain ⟨r7, er7, hf⟩ := ob_some hf
      refine r_cvi (As := []) (rest := []) hC (c_X4_next er7) yv_X4_next ml_RX4_34 dC_31 ⟨by decide, by decide, rfl, rfl⟩ rfl rfl (Nat.le_of_ble_eq_true rfl) dX4_readInto_26 ?_
      refine r_if_ne (tgt := 36) hC dX4_readInto_29 (by decide) (fun c8 => ?_) (fun c8 => ?_)
      · have hf := ite_f c8 hf
        refine r_iconst (v := 0) hC dX4_readInto_36 (by decide) ?_
        have hf := Option.some.inj hf
        subst hf
        exact r_zret hC rfl dX4_readInto_37 hk
      · have hf := ite_t c8 hf
        refine r_iconst (v := 1) hC dX4_readInto_32 (by decide) ?_
        refine r_goto (tgt := 37) hC dX4_readInto_33 (by decide) ?_
        have hf := Option.some.inj hf
        subst hf
        exact r_zret hC rfl dX4_readInto_37 hk
set_option maxHeartbeats 4000000 in
set_option maxRecDepth 100000 in
theorem c_X4_readInto {l : Launch} {G : zG} {N : Nat} {u : zS} {r : Int32 × zS} (hf : f_X4_readInto N u = some r) : zM l dscC yX4_readInto cX4_readInto 2 (some .boolean) rm_X4_readInto G [.ref (G.1 31), .ref (G.1 21)] u (some (.int r.1)) r.2 := zM.of (by decide) (Nat.le_of_ble_eq_true rfl) (fun X hC => t_X4_readInto hC r hf ⟨rfl, rfl⟩)
set_option maxHeartbeats 4000000 in
set_option maxRecDepth 100000 in
theorem t_X5_angel {l : Launch} {G : zG} {X : zX} {K : Option Value → zS → Prop} (hC : zC G X cX5_angel 2 RX5 (some .int)) {N : Nat} {u : zS} {v1 : Int32} (o : Int32 × zS) (hf : f_X5_angel N u v1 = some o) (hk : K (some (.int o.1)) o.2) : zW dscC l rm_X5_angel G X K u 0 [(0, .ref (G.1 0)), (1, .int v1)] [] := by
  unfold f_X5_angel at hf
  refine r_iload_n hC dX5_angel_0 1 rfl ?_
  refine r_csi (As := [.int v1]) (rest := []) hC c_X5_isPlace ys_X5_isPlace ml_RX5_54 ⟨by decide, by decide, rfl, rfl⟩ rfl rfl (Nat.le_of_ble_eq_true rfl) dX5_angel_1 ?_
  refine r_if_ne (tgt := 9) hC dX5_angel_4 (by decide) (fun c1 => ?_) (fun c1 => ?_)
  · have hf := ite_f c1 hf
    refine r_aload_n hC dX5_angel_9 0 rfl ?_
    refine r_getr hC fd_RX5_10 dC_0 rfl dX5_angel_10 ?_
    refine r_geti hC fd_RX5_58 dC_1 rfl dX5_angel_13 ?_
    refine r_bipush (v := 8) hC dX5_angel_16 (by decide) ?_
    refine r_icmp_lt (tgt := 24) hC dX5_angel_18 (by decide) (fun c2 => ?_) (fun c2 => ?_)
    · have hf := ite_t c2 hf
      refine r_aload_n hC dX5_angel_24 0 rfl ?_
      refine r_getr hC fd_RX5_10 dC_0 rfl dX5_angel_25 ?_
      obtain ⟨r3, er3, hf⟩ := ob_some hf
      refine r_cvi (As := []) (rest := []) hC (c_X1_standing isR_1 er3) yv_X1_standing ml_RX5_62 dC_1 ⟨by decide, by decide, rfl, rfl⟩ rfl rfl (Nat.le_of_ble_eq_true rfl) dX5_angel_28 ?_
      refine r_iload_n hC dX5_angel_31 1 rfl ?_
      refine r_csi (As := [.int r3, .int v1]) (rest := []) hC c_X5_holds ys_X5_holds ml_RX5_66 ⟨by decide, by decide, rfl, rfl⟩ rfl rfl (Nat.le_of_ble_eq_true rfl) dX5_angel_32 ?_
      refine r_if_eq (tgt := 41) hC dX5_angel_35 (by decide) (fun c4 => ?_) (fun c4 => ?_)
      · have hf := ite_t c4 hf
        refine r_aload_n hC dX5_angel_41 0 rfl ?_
        refine r_getr hC fd_RX5_10 dC_0 rfl dX5_angel_42 ?_
        refine r_getr hC fd_RX5_70 dC_1 rfl dX5_angel_45 ?_
        obtain ⟨r5, er5⟩ : ∃ z, z = f_X0_forget 1 u := ⟨_, rfl⟩
        have hf := olet_at er5 hf
        refine r_cvv (As := []) (rest := []) hC (c_X0_forget isR_1 (r := r5) er5.symm) yv_X0_forget ml_RX5_74 dC_7 ⟨by decide, by decide, rfl, rfl⟩ rfl rfl (Nat.le_of_ble_eq_true rfl) dX5_angel_48 ?_
        refine r_aload_n hC dX5_angel_51 0 rfl ?_
        refine r_getr hC fd_RX5_10 dC_0 rfl dX5_angel_52 ?_
        refine r_iload_n hC dX5_angel_55 1 rfl ?_
        obtain ⟨r6, er6, hf⟩ := ob_some hf
        refine r_cvi (As := [.int v1]) (rest := []) hC (c_X1_addAngel isR_1 er6) yv_X1_addAngel ml_RX5_79 dC_1 ⟨by decide, by decide, rfl, rfl⟩ rfl rfl (Nat.le_of_ble_eq_true rfl) dX5_angel_56 ?_
        have hf := Option.some.inj hf
        subst hf
        exact r_iret hC dX5_angel_59 hk
      · have hf := ite_f c4 hf
        refine r_bipush (v := (-2)) hC dX5_angel_38 (by decide) ?_
        have hf := Option.some.inj hf
        subst hf
        exact r_iret hC dX5_angel_40 hk
    · have hf := ite_f c2 hf
      refine r_bipush (v := (-3)) hC dX5_angel_21 (by decide) ?_
      have hf := Option.some.inj hf
      subst hf
      exact r_iret hC dX5_angel_23 hk
  · have hf := ite_t c1 hf
    refine r_iconst (v := (-1)) hC dX5_angel_7 (by decide) ?_
    have hf := Option.some.inj hf
    subst hf
    exact r_iret hC dX5_angel_8 hk
set_option maxHeartbeats 4000000 in
set_option maxRecDepth 100000 in
theorem c_X5_angel {l : Launch} {G : zG} {N : Nat} {u : zS} {v1 : Int32} {r : Int32 × zS} (hf : f_X5_angel N u v1 = some r) : zM l dscC yX5_angel cX5_angel 2 (some .int) rm_X5_angel G [.ref (G.1 0), .int v1] u (some (.int r.1)) r.2 := zM.of (by decide) (Nat.le_of_ble_eq_true rfl) (fun X hC => t_X5_angel hC r hf ⟨rfl, rfl⟩)
set_option maxHeartbeats 4000000 in
set_option maxRecDepth 100000 in
theorem t_X5_figure {l : Launch} {G : zG} {X : zX} {K : Option Value → zS → Prop} (hC : zC G X cX5_figure 3 RX5 (some .int)) {N : Nat} {u : zS} {v1 : Int32} {v2 : Int32} (o : Int32 × zS) (hf : f_X5_figure N u v1 v2 = some o) (hk : K (some (.int o.1)) o.2) : zW dscC l rm_X5_figure G X K u 0 [(0, .ref (G.1 0)), (1, .int v1), (2, .int v2)] [] := by
  unfold f_X5_figure at hf
  refine r_iload_n hC dX5_figure_0 1 rfl ?_
  refine r_iconst (v := 0) hC dX5_figure_1 (by decide) ?_
  refine r_iconst (v := 4) hC dX5_figure_2 (by decide) ?_
  refine r_csi (As := [.int v1, .int 0, .int 4]) (rest := []) hC c_X5_within ys_X5_within ml_RX5_83 ⟨by decide, by decide, rfl, rfl⟩ rfl rfl (Nat.le_of_ble_eq_true rfl) dX5_figure_3 ?_
  refine r_if_eq (tgt := 16) hC dX5_figure_6 (by decide) (fun c1 => ?_) (fun c1 => ?_)
  · have hf := ite_t c1 hf
    refine r_iconst (v := (-1)) hC dX5_figure_16 (by decide) ?_
    have hf := Option.some.inj hf
    subst hf
    exact r_iret hC dX5_figure_17 hk
  · have hf := ite_f c1 hf
    refine r_iload_n hC dX5_figure_9 2 rfl ?_
    refine r_csi (As := [.int v2]) (rest := []) hC c_X5_isPlace ys_X5_isPlace ml_RX5_54 ⟨by decide, by decide, rfl, rfl⟩ rfl rfl (Nat.le_of_ble_eq_true rfl) dX5_figure_10 ?_
    refine r_if_ne (tgt := 18) hC dX5_figure_13 (by decide) (fun c2 => ?_) (fun c2 => ?_)
    · have hf := ite_f c2 hf
      refine r_aload_n hC dX5_figure_18 0 rfl ?_
      refine r_getr hC fd_RX5_10 dC_0 rfl dX5_figure_19 ?_
      refine r_geti hC fd_RX5_87 dC_1 rfl dX5_figure_22 ?_
      refine r_iconst (v := 5) hC dX5_figure_25 (by decide) ?_
      refine r_icmp_lt (tgt := 32) hC dX5_figure_26 (by decide) (fun c3 => ?_) (fun c3 => ?_)
      · have hf := ite_t c3 hf
        refine r_aload_n hC dX5_figure_32 0 rfl ?_
        refine r_getr hC fd_RX5_10 dC_0 rfl dX5_figure_33 ?_
        refine r_getr hC fd_RX5_70 dC_1 rfl dX5_figure_36 ?_
        obtain ⟨r4, er4⟩ : ∃ z, z = f_X0_forget 1 u := ⟨_, rfl⟩
        have hf := olet_at er4 hf
        refine r_cvv (As := []) (rest := []) hC (c_X0_forget isR_1 (r := r4) er4.symm) yv_X0_forget ml_RX5_74 dC_7 ⟨by decide, by decide, rfl, rfl⟩ rfl rfl (Nat.le_of_ble_eq_true rfl) dX5_figure_39 ?_
        refine r_aload_n hC dX5_figure_42 0 rfl ?_
        refine r_getr hC fd_RX5_10 dC_0 rfl dX5_figure_43 ?_
        refine r_iload_n hC dX5_figure_46 1 rfl ?_
        refine r_iload_n hC dX5_figure_47 2 rfl ?_
        obtain ⟨r5, er5, hf⟩ := ob_some hf
        refine r_cvi (As := [.int v1, .int v2]) (rest := []) hC (c_X1_addFigure isR_1 er5) yv_X1_addFigure ml_RX5_90 dC_1 ⟨by decide, by decide, rfl, rfl⟩ rfl rfl (Nat.le_of_ble_eq_true rfl) dX5_figure_48 ?_
        have hf := Option.some.inj hf
        subst hf
        exact r_iret hC dX5_figure_51 hk
      · have hf := ite_f c3 hf
        refine r_bipush (v := (-3)) hC dX5_figure_29 (by decide) ?_
        have hf := Option.some.inj hf
        subst hf
        exact r_iret hC dX5_figure_31 hk
    · have hf := ite_t c2 hf
      refine r_iconst (v := (-1)) hC dX5_figure_16 (by decide) ?_
      have hf := Option.some.inj hf
      subst hf
      exact r_iret hC dX5_figure_17 hk
set_option maxHeartbeats 4000000 in
set_option maxRecDepth 100000 in
theorem c_X5_figure {l : Launch} {G : zG} {N : Nat} {u : zS} {v1 : Int32} {v2 : Int32} {r : Int32 × zS} (hf : f_X5_figure N u v1 v2 = some r) : zM l dscC yX5_figure cX5_figure 3 (some .int) rm_X5_figure G [.ref (G.1 0), .int v1, .int v2] u (some (.int r.1)) r.2 := zM.of (by decide) (Nat.le_of_ble_eq_true rfl) (fun X hC => t_X5_figure hC r hf ⟨rfl, rfl⟩)
set_option maxHeartbeats 4000000 in
set_option maxRecDepth 100000 in
theorem t_X5_tune {l : Launch} {G : zG} {X : zX} {K : Option Value → zS → Prop} (hC : zC G X cX5_tune 2 RX5 (some .int)) {u : zS} {v1 : Int32} (o : Int32 × zS) (hf : f_X5_tune u v1 = some o) (hk : K (some (.int o.1)) o.2) : zW dscC l rm_X5_tune G X K u 0 [(0, .ref (G.1 0)), (1, .int v1)] [] := by
  unfold f_X5_tune at hf
  refine r_aload_n hC dX5_tune_0 0 rfl ?_
  refine r_getr hC fd_RX5_10 dC_0 rfl dX5_tune_1 ?_
  refine r_iload_n hC dX5_tune_4 1 rfl ?_
  refine r_cvi (As := [.int v1]) (rest := []) hC (c_X1_hasFigure isR_1) yv_X1_hasFigure ml_RX5_94 dC_1 ⟨by decide, by decide, rfl, rfl⟩ rfl rfl (Nat.le_of_ble_eq_true rfl) dX5_tune_5 ?_
  refine r_if_ne (tgt := 13) hC dX5_tune_8 (by decide) (fun c1 => ?_) (fun c1 => ?_)
  · have hf := ite_f c1 hf
    refine r_aload_n hC dX5_tune_13 0 rfl ?_
    refine r_getr hC fd_RX5_10 dC_0 rfl dX5_tune_14 ?_
    refine r_geti hC fd_RX5_97 dC_1 rfl dX5_tune_17 ?_
    refine r_bipush (v := 16) hC dX5_tune_20 (by decide) ?_
    refine r_icmp_lt (tgt := 28) hC dX5_tune_22 (by decide) (fun c2 => ?_) (fun c2 => ?_)
    · have hf := ite_t c2 hf
      refine r_aload_n hC dX5_tune_28 0 rfl ?_
      refine r_getr hC fd_RX5_10 dC_0 rfl dX5_tune_29 ?_
      refine r_getr hC fd_RX5_70 dC_1 rfl dX5_tune_32 ?_
      obtain ⟨r3, er3⟩ : ∃ z, z = f_X0_forget 1 u := ⟨_, rfl⟩
      have hf := olet_at er3 hf
      refine r_cvv (As := []) (rest := []) hC (c_X0_forget isR_1 (r := r3) er3.symm) yv_X0_forget ml_RX5_74 dC_7 ⟨by decide, by decide, rfl, rfl⟩ rfl rfl (Nat.le_of_ble_eq_true rfl) dX5_tune_35 ?_
      refine r_aload_n hC dX5_tune_38 0 rfl ?_
      refine r_getr hC fd_RX5_10 dC_0 rfl dX5_tune_39 ?_
      refine r_iload_n hC dX5_tune_42 1 rfl ?_
      obtain ⟨r4, er4, hf⟩ := ob_some hf
      refine r_cvi (As := [.int v1]) (rest := []) hC (c_X1_addToTune isR_1 er4) yv_X1_addToTune ml_RX5_100 dC_1 ⟨by decide, by decide, rfl, rfl⟩ rfl rfl (Nat.le_of_ble_eq_true rfl) dX5_tune_43 ?_
      have hf := Option.some.inj hf
      subst hf
      exact r_iret hC dX5_tune_46 hk
    · have hf := ite_f c2 hf
      refine r_bipush (v := (-3)) hC dX5_tune_25 (by decide) ?_
      have hf := Option.some.inj hf
      subst hf
      exact r_iret hC dX5_tune_27 hk
  · have hf := ite_t c1 hf
    refine r_iconst (v := (-1)) hC dX5_tune_11 (by decide) ?_
    have hf := Option.some.inj hf
    subst hf
    exact r_iret hC dX5_tune_12 hk
set_option maxHeartbeats 4000000 in
set_option maxRecDepth 100000 in
theorem c_X5_tune {l : Launch} {G : zG} {u : zS} {v1 : Int32} {r : Int32 × zS} (hf : f_X5_tune u v1 = some r) : zM l dscC yX5_tune cX5_tune 2 (some .int) rm_X5_tune G [.ref (G.1 0), .int v1] u (some (.int r.1)) r.2 := zM.of (by decide) (Nat.le_of_ble_eq_true rfl) (fun X hC => t_X5_tune hC r hf ⟨rfl, rfl⟩)
set_option maxHeartbeats 4000000 in
set_option maxRecDepth 100000 in
theorem t_X5_hush {l : Launch} {G : zG} {X : zX} {K : Option Value → zS → Prop} (hC : zC G X cX5_hush 2 RX5 (some .int)) {u : zS} (o : Int32 × zS) (hf : f_X5_hush u = o) (hk : K (some (.int o.1)) o.2) : zW dscC l rm_X5_hush G X K u 0 [(0, .ref (G.1 0))] [] := by
  unfold f_X5_hush at hf
  refine r_aload_n hC dX5_hush_0 0 rfl ?_
  refine r_getr hC fd_RX5_10 dC_0 rfl dX5_hush_1 ?_
  refine r_getr hC fd_RX5_70 dC_1 rfl dX5_hush_4 ?_
  obtain ⟨r1, er1⟩ : ∃ z, z = f_X0_forget 1 u := ⟨_, rfl⟩
  have hf := olet_at er1 hf
  refine r_cvv (As := []) (rest := []) hC (c_X0_forget isR_1 (r := r1) er1.symm) yv_X0_forget ml_RX5_74 dC_7 ⟨by decide, by decide, rfl, rfl⟩ rfl rfl (Nat.le_of_ble_eq_true rfl) dX5_hush_7 ?_
  refine r_aload_n hC dX5_hush_10 0 rfl ?_
  refine r_getr hC fd_RX5_10 dC_0 rfl dX5_hush_11 ?_
  refine r_geti hC fd_RX5_97 dC_1 rfl dX5_hush_14 ?_
  refine r_istore_n (lv' := [(1, .int (r1.1 1 8)), (0, .ref (G.1 0))]) hC dX5_hush_17 rfl (by decide) rfl ?_
  refine r_aload_n hC dX5_hush_18 1 rfl ?_
  refine r_getr hC fd_RX5_10 dC_0 rfl dX5_hush_19 ?_
  refine r_iconst (v := 0) hC dX5_hush_22 (by decide) ?_
  refine r_puti hC fp_RX5_97 dC_1 rfl dX5_hush_23 ?_
  refine r_tops (fun u2 eu2 => ?_)
  have hf := olet_at eu2 hf
  refine r_iload_n hC dX5_hush_26 0 rfl ?_
  subst hf
  exact r_iret hC dX5_hush_27 hk
set_option maxHeartbeats 4000000 in
set_option maxRecDepth 100000 in
theorem c_X5_hush {l : Launch} {G : zG} {u : zS} {r : Int32 × zS} (hf : f_X5_hush u = r) : zM l dscC yX5_hush cX5_hush 2 (some .int) rm_X5_hush G [.ref (G.1 0)] u (some (.int r.1)) r.2 := zM.of (by decide) (Nat.le_of_ble_eq_true rfl) (fun X hC => t_X5_hush hC r hf ⟨rfl, rfl⟩)
set_option maxHeartbeats 4000000 in
set_option maxRecDepth 100000 in
theorem t_X5_of {l : Launch} {G : zG} {X : zX} {K : Option Value → zS → Prop} (hC : zC G X cX5_of 3 RX5 (some .int)) {N : Nat} {u : zS} {v1 : Int32} {v2 : Int32} (o : Int32) (hf : f_X5_of N u v1 v2 = some o) (hk : K (some (.int o)) u) : zW dscC l rm_X5_of G X K u 0 [(0, .ref (G.1 0)), (1, .int v1), (2, .int v2)] [] := by
  unfold f_X5_of at hf
  refine r_aload_n hC dX5_of_0 0 rfl ?_
  refine r_getr hC fd_RX5_10 dC_0 rfl dX5_of_1 ?_
  refine r_iload_n hC dX5_of_4 1 rfl ?_
  refine r_cvi (As := [.int v1]) (rest := []) hC (c_X1_hasFigure isR_1) yv_X1_hasFigure ml_RX5_94 dC_1 ⟨by decide, by decide, rfl, rfl⟩ rfl rfl (Nat.le_of_ble_eq_true rfl) dX5_of_5 ?_
  refine r_if_ne (tgt := 13) hC dX5_of_8 (by decide) (fun c1 => ?_) (fun c1 => ?_)
  · have hf := ite_f c1 hf
    refine r_iload_n hC dX5_of_13 2 rfl ?_
    by_cases s2 : v2 = 0
    · have hf := ite_t s2 hf
      refine r_tsIn (q := 0) (off := 34) (tgt := 48) hC dX5_of_14 s2 (by decide) (by decide) ?_
      refine r_aload_n hC dX5_of_48 0 rfl ?_
      refine r_getr hC fd_RX5_10 dC_0 rfl dX5_of_49 ?_
      refine r_getr hC fd_RX5_103 dC_1 rfl dX5_of_52 ?_
      refine r_iload_n hC dX5_of_55 1 rfl ?_
      obtain ⟨g3, hf⟩ := og_in hf
      refine r_iald hC dC_3 g3 dX5_of_56 ?_
      have hf := Option.some.inj hf
      subst hf
      exact r_iret hC dX5_of_57 hk
    · have hf := ite_f s2 hf
      by_cases s4 : v2 = 1
      · have hf := ite_t s4 hf
        refine r_tsIn (q := 1) (off := 44) (tgt := 58) hC dX5_of_14 s4 (by decide) (by decide) ?_
        refine r_aload_n hC dX5_of_58 0 rfl ?_
        refine r_getr hC fd_RX5_10 dC_0 rfl dX5_of_59 ?_
        refine r_getr hC fd_RX5_106 dC_1 rfl dX5_of_62 ?_
        refine r_iload_n hC dX5_of_65 1 rfl ?_
        obtain ⟨g5, hf⟩ := og_in hf
        refine r_iald hC dC_4 g5 dX5_of_66 ?_
        have hf := Option.some.inj hf
        subst hf
        exact r_iret hC dX5_of_67 hk
      · have hf := ite_f s4 hf
        by_cases s6 : v2 = 2
        · have hf := ite_t s6 hf
          refine r_tsIn (q := 2) (off := 54) (tgt := 68) hC dX5_of_14 s6 (by decide) (by decide) ?_
          refine r_aload_n hC dX5_of_68 0 rfl ?_
          refine r_getr hC fd_RX5_10 dC_0 rfl dX5_of_69 ?_
          refine r_iload_n hC dX5_of_72 1 rfl ?_
          obtain ⟨r7, er7, hf⟩ := ob_some hf
          refine r_cvi (As := [.int v1]) (rest := []) hC (c_X1_orderOf isR_1 er7) yv_X1_orderOf ml_RX5_109 dC_1 ⟨by decide, by decide, rfl, rfl⟩ rfl rfl (Nat.le_of_ble_eq_true rfl) dX5_of_73 ?_
          have hf := Option.some.inj hf
          subst hf
          exact r_iret hC dX5_of_76 hk
        · have hf := ite_f s6 hf
          by_cases s8 : v2 = 3
          · have hf := ite_t s8 hf
            refine r_tsIn (q := 3) (off := 63) (tgt := 77) hC dX5_of_14 s8 (by decide) (by decide) ?_
            refine r_aload_n hC dX5_of_77 0 rfl ?_
            refine r_getr hC fd_RX5_10 dC_0 rfl dX5_of_78 ?_
            refine r_iload_n hC dX5_of_81 1 rfl ?_
            obtain ⟨r9, er9, hf⟩ := ob_some hf
            refine r_cvi (As := [.int v1]) (rest := []) hC (c_X1_keptBy isR_1 er9) yv_X1_keptBy ml_RX5_112 dC_1 ⟨by decide, by decide, rfl, rfl⟩ rfl rfl (Nat.le_of_ble_eq_true rfl) dX5_of_82 ?_
            have hf := Option.some.inj hf
            subst hf
            exact r_iret hC dX5_of_85 hk
          · have hf := ite_f s8 hf
            by_cases s10 : v2 = 4
            · have hf := ite_t s10 hf
              refine r_tsIn (q := 4) (off := 72) (tgt := 86) hC dX5_of_14 s10 (by decide) (by decide) ?_
              refine r_aload_n hC dX5_of_86 0 rfl ?_
              refine r_getr hC fd_RX5_10 dC_0 rfl dX5_of_87 ?_
              refine r_iload_n hC dX5_of_90 1 rfl ?_
              obtain ⟨r11, er11, hf⟩ := ob_some hf
              refine r_cvi (As := [.int v1]) (rest := []) hC (c_X1_leastLike isR_1 er11) yv_X1_leastLike ml_RX5_115 dC_1 ⟨by decide, by decide, rfl, rfl⟩ rfl rfl (Nat.le_of_ble_eq_true rfl) dX5_of_91 ?_
              have hf := Option.some.inj hf
              subst hf
              exact r_iret hC dX5_of_94 hk
            · have hf := ite_f s10 hf
              refine r_tsOut (tgt := 95) hC dX5_of_14 (by have zs2 := lv_neT (a := 0) s2 rfl; have zs4 := lv_neT (a := 1) s4 rfl; have zs6 := lv_neT (a := 2) s6 rfl; have zs8 := lv_neT (a := 3) s8 rfl; have zs10 := lv_neT (a := 4) s10 rfl; omega) (by decide) ?_
              refine r_iconst (v := (-1)) hC dX5_of_95 (by decide) ?_
              have hf := Option.some.inj hf
              subst hf
              exact r_iret hC dX5_of_96 hk
  · have hf := ite_t c1 hf
    refine r_iconst (v := (-1)) hC dX5_of_11 (by decide) ?_
    have hf := Option.some.inj hf
    subst hf
    exact r_iret hC dX5_of_12 hk
set_option maxHeartbeats 4000000 in
set_option maxRecDepth 100000 in
theorem c_X5_of {l : Launch} {G : zG} {N : Nat} {u : zS} {v1 : Int32} {v2 : Int32} {r : Int32} (hf : f_X5_of N u v1 v2 = some r) : zM l dscC yX5_of cX5_of 3 (some .int) rm_X5_of G [.ref (G.1 0), .int v1, .int v2] u (some (.int r)) u := zM.of (by decide) (Nat.le_of_ble_eq_true rfl) (fun X hC => t_X5_of hC r hf ⟨rfl, rfl⟩)
set_option maxHeartbeats 4000000 in
set_option maxRecDepth 100000 in
theorem t_X5_leads {l : Launch} {G : zG} {X : zX} {K : Option Value → zS → Prop} (hC : zC G X cX5_leads 3 RX5 (some .int)) {u : zS} {v1 : Int32} {v2 : Int32} (o : Int32) (hf : f_X5_leads u v1 v2 = some o) (hk : K (some (.int o)) u) : zW dscC l rm_X5_leads G X K u 0 [(0, .ref (G.1 0)), (1, .int v1), (2, .int v2)] [] := by
  unfold f_X5_leads at hf
  refine r_aload_n hC dX5_leads_0 0 rfl ?_
  refine r_getr hC fd_RX5_10 dC_0 rfl dX5_leads_1 ?_
  refine r_iload_n hC dX5_leads_4 1 rfl ?_
  refine r_cvi (As := [.int v1]) (rest := []) hC (c_X1_hasFigure isR_1) yv_X1_hasFigure ml_RX5_94 dC_1 ⟨by decide, by decide, rfl, rfl⟩ rfl rfl (Nat.le_of_ble_eq_true rfl) dX5_leads_5 ?_
  refine r_if_eq (tgt := 18) hC dX5_leads_8 (by decide) (fun c1 => ?_) (fun c1 => ?_)
  · have hf := ite_t c1 hf
    refine r_iconst (v := (-1)) hC dX5_leads_18 (by decide) ?_
    have hf := Option.some.inj hf
    subst hf
    exact r_iret hC dX5_leads_19 hk
  · have hf := ite_f c1 hf
    refine r_iload_n hC dX5_leads_11 2 rfl ?_
    refine r_csi (As := [.int v2]) (rest := []) hC c_X5_isPlace ys_X5_isPlace ml_RX5_54 ⟨by decide, by decide, rfl, rfl⟩ rfl rfl (Nat.le_of_ble_eq_true rfl) dX5_leads_12 ?_
    refine r_if_ne (tgt := 20) hC dX5_leads_15 (by decide) (fun c2 => ?_) (fun c2 => ?_)
    · have hf := ite_f c2 hf
      refine r_aload_n hC dX5_leads_20 0 rfl ?_
      refine r_getr hC fd_RX5_10 dC_0 rfl dX5_leads_21 ?_
      refine r_iload_n hC dX5_leads_24 1 rfl ?_
      refine r_iload_n hC dX5_leads_25 2 rfl ?_
      obtain ⟨r3, er3, hf⟩ := ob_some hf
      refine r_cvi (As := [.int v1, .int v2]) (rest := []) hC (c_X1_ledBy isR_1 er3) yv_X1_ledBy ml_RX5_118 dC_1 ⟨by decide, by decide, rfl, rfl⟩ rfl rfl (Nat.le_of_ble_eq_true rfl) dX5_leads_26 ?_
      have hf := Option.some.inj hf
      subst hf
      exact r_iret hC dX5_leads_29 hk
    · have hf := ite_t c2 hf
      refine r_iconst (v := (-1)) hC dX5_leads_18 (by decide) ?_
      have hf := Option.some.inj hf
      subst hf
      exact r_iret hC dX5_leads_19 hk
set_option maxHeartbeats 4000000 in
set_option maxRecDepth 100000 in
theorem c_X5_leads {l : Launch} {G : zG} {u : zS} {v1 : Int32} {v2 : Int32} {r : Int32} (hf : f_X5_leads u v1 v2 = some r) : zM l dscC yX5_leads cX5_leads 3 (some .int) rm_X5_leads G [.ref (G.1 0), .int v1, .int v2] u (some (.int r)) u := zM.of (by decide) (Nat.le_of_ble_eq_true rfl) (fun X hC => t_X5_leads hC r hf ⟨rfl, rfl⟩)
set_option maxHeartbeats 4000000 in
set_option maxRecDepth 100000 in
theorem t_X5_at {l : Launch} {G : zG} {X : zX} {K : Option Value → zS → Prop} (hC : zC G X cX5_at 2 RX5 (some .int)) {u : zS} {v1 : Int32} (o : Int32) (hf : f_X5_at u v1 = some o) (hk : K (some (.int o)) u) : zW dscC l rm_X5_at G X K u 0 [(0, .ref (G.1 0)), (1, .int v1)] [] := by
  unfold f_X5_at at hf
  refine r_aload_n hC dX5_at_0 0 rfl ?_
  refine r_getr hC fd_RX5_10 dC_0 rfl dX5_at_1 ?_
  refine r_iload_n hC dX5_at_4 1 rfl ?_
  refine r_cvi (As := [.int v1]) (rest := []) hC (c_X1_hasAngel isR_1) yv_X1_hasAngel ml_RX5_121 dC_1 ⟨by decide, by decide, rfl, rfl⟩ rfl rfl (Nat.le_of_ble_eq_true rfl) dX5_at_5 ?_
  refine r_if_ne (tgt := 13) hC dX5_at_8 (by decide) (fun c1 => ?_) (fun c1 => ?_)
  · have hf := ite_f c1 hf
    refine r_aload_n hC dX5_at_13 0 rfl ?_
    refine r_getr hC fd_RX5_10 dC_0 rfl dX5_at_14 ?_
    refine r_getr hC fd_RX5_124 dC_1 rfl dX5_at_17 ?_
    refine r_iload_n hC dX5_at_20 1 rfl ?_
    obtain ⟨g2, hf⟩ := og_in hf
    refine r_iald hC dC_2 g2 dX5_at_21 ?_
    have hf := Option.some.inj hf
    subst hf
    exact r_iret hC dX5_at_22 hk
  · have hf := ite_t c1 hf
    refine r_iconst (v := (-1)) hC dX5_at_11 (by decide) ?_
    have hf := Option.some.inj hf
    subst hf
    exact r_iret hC dX5_at_12 hk
set_option maxHeartbeats 4000000 in
set_option maxRecDepth 100000 in
theorem c_X5_at {l : Launch} {G : zG} {u : zS} {v1 : Int32} {r : Int32} (hf : f_X5_at u v1 = some r) : zM l dscC yX5_at cX5_at 2 (some .int) rm_X5_at G [.ref (G.1 0), .int v1] u (some (.int r)) u := zM.of (by decide) (Nat.le_of_ble_eq_true rfl) (fun X hC => t_X5_at hC r hf ⟨rfl, rfl⟩)
set_option maxHeartbeats 4000000 in
set_option maxRecDepth 100000 in
theorem t_J6_bitCount_0f7a4 {l : Launch} {G : zG} {X : zX} {K : Option Value → zS → Prop} (hC : zC G X cJ6_bitCount_0f7a4 1 RJ6 (some .int)) {u : zS} {v0 : Int32} (o : Int32) (hf : f_J6_bitCount_0f7a4 v0 = o) (hk : K (some (.int o)) u) : zW dscC l rm_J6_bitCount_0f7a4 G X K u 0 [(0, .int v0)] [] := by
  unfold f_J6_bitCount_0f7a4 at hf
  refine r_iload_n hC dJ6_bitCount_0f7a4_0 0 rfl ?_
  refine r_iload_n hC dJ6_bitCount_0f7a4_1 0 rfl ?_
  refine r_iconst (v := 1) hC dJ6_bitCount_0f7a4_2 (by decide) ?_
  refine r_iushr hC dJ6_bitCount_0f7a4_3 ?_
  refine r_ldcw hC cn_RJ6_265 dJ6_bitCount_0f7a4_4 ?_
  refine r_iand hC dJ6_bitCount_0f7a4_7 ?_
  refine r_isub hC dJ6_bitCount_0f7a4_8 ?_
  refine r_topi (fun w1 ew1 => ?_)
  have hf := olet_at ew1 hf
  refine r_istore_n (lv' := [(0, .int w1)]) hC dJ6_bitCount_0f7a4_9 rfl (by decide) rfl ?_
  refine r_iload_n hC dJ6_bitCount_0f7a4_10 0 rfl ?_
  refine r_ldcw hC cn_RJ6_266 dJ6_bitCount_0f7a4_11 ?_
  refine r_iand hC dJ6_bitCount_0f7a4_14 ?_
  refine r_iload_n hC dJ6_bitCount_0f7a4_15 0 rfl ?_
  refine r_iconst (v := 2) hC dJ6_bitCount_0f7a4_16 (by decide) ?_
  refine r_iushr hC dJ6_bitCount_0f7a4_17 ?_
  refine r_ldcw hC cn_RJ6_266 dJ6_bitCount_0f7a4_18 ?_
  refine r_iand hC dJ6_bitCount_0f7a4_21 ?_
  refine r_iadd hC dJ6_bitCount_0f7a4_22 ?_
  refine r_topi (fun w2 ew2 => ?_)
  have hf := olet_at ew2 hf
  refine r_istore_n (lv' := [(0, .int w2)]) hC dJ6_bitCount_0f7a4_23 rfl (by decide) rfl ?_
  refine r_iload_n hC dJ6_bitCount_0f7a4_24 0 rfl ?_
  refine r_iload_n hC dJ6_bitCount_0f7a4_25 0 rfl ?_
  refine r_iconst (v := 4) hC dJ6_bitCount_0f7a4_26 (by decide) ?_
  refine r_iushr hC dJ6_bitCount_0f7a4_27 ?_
  refine r_iadd hC dJ6_bitCount_0f7a4_28 ?_
  refine r_ldcw hC cn_RJ6_267 dJ6_bitCount_0f7a4_29 ?_
  refine r_iand hC dJ6_bitCount_0f7a4_32 ?_
  refine r_topi (fun w3 ew3 => ?_)
  have hf := olet_at ew3 hf
  refine r_istore_n (lv' := [(0, .int w3)]) hC dJ6_bitCount_0f7a4_33 rfl (by decide) rfl ?_
  refine r_iload_n hC dJ6_bitCount_0f7a4_34 0 rfl ?_
  refine r_iload_n hC dJ6_bitCount_0f7a4_35 0 rfl ?_
  refine r_bipush (v := 8) hC dJ6_bitCount_0f7a4_36 (by decide) ?_
  refine r_iushr hC dJ6_bitCount_0f7a4_38 ?_
  refine r_iadd hC dJ6_bitCount_0f7a4_39 ?_
  refine r_topi (fun w4 ew4 => ?_)
  have hf := olet_at ew4 hf
  refine r_istore_n (lv' := [(0, .int w4)]) hC dJ6_bitCount_0f7a4_40 rfl (by decide) rfl ?_
  refine r_iload_n hC dJ6_bitCount_0f7a4_41 0 rfl ?_
  refine r_iload_n hC dJ6_bitCount_0f7a4_42 0 rfl ?_
  refine r_bipush (v := 16) hC dJ6_bitCount_0f7a4_43 (by decide) ?_
  refine r_iushr hC dJ6_bitCount_0f7a4_45 ?_
  refine r_iadd hC dJ6_bitCount_0f7a4_46 ?_
  refine r_topi (fun w5 ew5 => ?_)
  have hf := olet_at ew5 hf
  refine r_istore_n (lv' := [(0, .int w5)]) hC dJ6_bitCount_0f7a4_47 rfl (by decide) rfl ?_
  refine r_iload_n hC dJ6_bitCount_0f7a4_48 0 rfl ?_
  refine r_bipush (v := 63) hC dJ6_bitCount_0f7a4_49 (by decide) ?_
  refine r_iand hC dJ6_bitCount_0f7a4_51 ?_
  subst hf
  exact r_iret hC dJ6_bitCount_0f7a4_52 hk
set_option maxHeartbeats 4000000 in
set_option maxRecDepth 100000 in
theorem c_J6_bitCount_0f7a4 {l : Launch} {G : zG} {u : zS} {v0 : Int32} : zM l dscC yJ6_bitCount_0f7a4 cJ6_bitCount_0f7a4 1 (some .int) rm_J6_bitCount_0f7a4 G [.int v0] u (some (.int (f_J6_bitCount_0f7a4 v0))) u := zM.of (by decide) (Nat.le_of_ble_eq_true rfl) (fun X hC => t_J6_bitCount_0f7a4 hC _ rfl ⟨rfl, rfl⟩)
set_option maxHeartbeats 4000000 in
set_option maxRecDepth 100000 in
theorem t_X5_seenFrom {l : Launch} {G : zG} {X : zX} {K : Option Value → zS → Prop} (hC : zC G X cX5_seenFrom 7 RX5 (some .int)) {u : zS} {v0 : Int32} {v1 : Int32} (o : Int32) (hf : f_X5_seenFrom v0 v1 = o) (hk : K (some (.int o)) u) : zW dscC l rm_X5_seenFrom G X K u 0 [(0, .int v0), (1, .int v1)] [] := by
  unfold f_X5_seenFrom at hf
  refine r_iload_n hC dX5_seenFrom_0 1 rfl ?_
  refine r_csi (As := [.int v1]) (rest := []) hC c_X5_leftBy8 ys_X5_leftBy8 ml_RX5_291 ⟨by decide, by decide, rfl, rfl⟩ rfl rfl (Nat.le_of_ble_eq_true rfl) dX5_seenFrom_1 ?_
  refine r_topi (fun w1 ew1 => ?_)
  have hf := olet_at ew1 hf
  refine r_istore_n (lv' := [(2, .int w1), (0, .int v0), (1, .int v1)]) hC dX5_seenFrom_4 rfl (by decide) rfl ?_
  refine r_iload_n hC dX5_seenFrom_5 1 rfl ?_
  refine r_iload_n hC dX5_seenFrom_6 0 rfl ?_
  refine r_ishr (x := v0) (y := w1) hC dX5_seenFrom_7 ?_
  refine r_iload_n hC dX5_seenFrom_8 1 rfl ?_
  refine r_bipush (v := 8) hC dX5_seenFrom_9 (by decide) ?_
  refine r_iload_n hC dX5_seenFrom_11 0 rfl ?_
  refine r_isub hC dX5_seenFrom_12 ?_
  refine r_ishl (x := v0) (y := (8 - w1)) hC dX5_seenFrom_13 ?_
  refine r_ior hC dX5_seenFrom_14 ?_
  refine r_topi (fun w2 ew2 => ?_)
  have hf := olet_at ew2 hf
  refine r_istore_n (lv' := [(3, .int w2), (2, .int w1), (0, .int v0), (1, .int v1)]) hC dX5_seenFrom_15 rfl (by decide) rfl ?_
  refine r_iload_n hC dX5_seenFrom_16 0 rfl ?_
  refine r_bipush (v := 14) hC dX5_seenFrom_17 (by decide) ?_
  refine r_iand hC dX5_seenFrom_19 ?_
  refine r_istore (lv' := [(4, .int (w2 &&& 14)), (3, .int w2), (2, .int w1), (0, .int v0), (1, .int v1)]) hC dX5_seenFrom_20 (by decide) rfl ?_
  refine r_iload_n hC dX5_seenFrom_22 1 rfl ?_
  refine r_sipush (v := 224) hC dX5_seenFrom_23 (by decide) ?_
  refine r_iand hC dX5_seenFrom_26 ?_
  refine r_istore (lv' := [(5, .int (w2 &&& 224)), (4, .int (w2 &&& 14)), (3, .int w2), (2, .int w1), (0, .int v0), (1, .int v1)]) hC dX5_seenFrom_27 (by decide) rfl ?_
  refine r_iload hC dX5_seenFrom_29 1 rfl ?_
  refine r_iconst (v := 1) hC dX5_seenFrom_31 (by decide) ?_
  refine r_ishl (x := (w2 &&& 14)) (y := 1) hC dX5_seenFrom_32 ?_
  refine r_iload hC dX5_seenFrom_33 0 rfl ?_
  refine r_iconst (v := 1) hC dX5_seenFrom_35 (by decide) ?_
  refine r_ishr (x := (w2 &&& 224)) (y := 1) hC dX5_seenFrom_36 ?_
  refine r_ior hC dX5_seenFrom_37 ?_
  refine r_istore (lv' := [(6, .int (((w2 &&& 14) <<< (1 &&& (31 : Int32))) ||| ((w2 &&& 224) >>> (1 &&& (31 : Int32))))), (5, .int (w2 &&& 224)), (4, .int (w2 &&& 14)), (3, .int w2), (2, .int w1), (0, .int v0), (1, .int v1)]) hC dX5_seenFrom_38 (by decide) rfl ?_
  refine r_iload_n hC dX5_seenFrom_40 3 rfl ?_
  refine r_iconst (v := 1) hC dX5_seenFrom_41 (by decide) ?_
  refine r_iand hC dX5_seenFrom_42 ?_
  refine r_iload hC dX5_seenFrom_43 2 rfl ?_
  refine r_ior hC dX5_seenFrom_45 ?_
  refine r_iload hC dX5_seenFrom_46 1 rfl ?_
  refine r_ior hC dX5_seenFrom_48 ?_
  refine r_iload hC dX5_seenFrom_49 0 rfl ?_
  refine r_iconst (v := (-1)) hC dX5_seenFrom_51 (by decide) ?_
  refine r_ixor hC dX5_seenFrom_52 ?_
  refine r_iand hC dX5_seenFrom_53 ?_
  refine r_csi (As := [.int ((((w2 &&& 1) ||| (w2 &&& 14)) ||| (w2 &&& 224)) &&& ((((w2 &&& 14) <<< (1 &&& (31 : Int32))) ||| ((w2 &&& 224) >>> (1 &&& (31 : Int32)))) ^^^ (-1)))]) (rest := []) hC c_J6_bitCount_0f7a4 ys_J6_bitCount_0f7a4 ml_RX5_179 ⟨by decide, by decide, rfl, rfl⟩ rfl rfl (Nat.le_of_ble_eq_true rfl) dX5_seenFrom_54 ?_
  subst hf
  exact r_iret hC dX5_seenFrom_57 hk
set_option maxHeartbeats 4000000 in
set_option maxRecDepth 100000 in
theorem c_X5_seenFrom {l : Launch} {G : zG} {u : zS} {v0 : Int32} {v1 : Int32} : zM l dscC yX5_seenFrom cX5_seenFrom 7 (some .int) rm_X5_seenFrom G [.int v0, .int v1] u (some (.int (f_X5_seenFrom v0 v1))) u := zM.of (by decide) (Nat.le_of_ble_eq_true rfl) (fun X hC => t_X5_seenFrom hC _ rfl ⟨rfl, rfl⟩)
set_option maxHeartbeats 4000000 in
set_option maxRecDepth 100000 in
theorem t_X5_seen {l : Launch} {G : zG} {X : zX} {K : Option Value → zS → Prop} (hC : zC G X cX5_seen 2 RX5 (some .int)) {N : Nat} {u : zS} {v1 : Int32} (o : Int32) (hf : f_X5_seen N u v1 = some o) (hk : K (some (.int o)) u) : zW dscC l rm_X5_seen G X K u 0 [(0, .ref (G.1 0)), (1, .int v1)] [] := by
  unfold f_X5_seen at hf
  refine r_iload_n hC dX5_seen_0 1 rfl ?_
  refine r_csi (As := [.int v1]) (rest := []) hC c_X5_isPlace ys_X5_isPlace ml_RX5_54 ⟨by decide, by decide, rfl, rfl⟩ rfl rfl (Nat.le_of_ble_eq_true rfl) dX5_seen_1 ?_
  refine r_if_ne (tgt := 9) hC dX5_seen_4 (by decide) (fun c1 => ?_) (fun c1 => ?_)
  · have hf := ite_f c1 hf
    refine r_aload_n hC dX5_seen_9 0 rfl ?_
    refine r_getr hC fd_RX5_10 dC_0 rfl dX5_seen_10 ?_
    obtain ⟨r2, er2, hf⟩ := ob_some hf
    refine r_cvi (As := []) (rest := []) hC (c_X1_standing isR_1 er2) yv_X1_standing ml_RX5_62 dC_1 ⟨by decide, by decide, rfl, rfl⟩ rfl rfl (Nat.le_of_ble_eq_true rfl) dX5_seen_13 ?_
    refine r_iload_n hC dX5_seen_16 1 rfl ?_
    refine r_csi (As := [.int r2, .int v1]) (rest := []) hC c_X5_seenFrom ys_X5_seenFrom ml_RX5_127 ⟨by decide, by decide, rfl, rfl⟩ rfl rfl (Nat.le_of_ble_eq_true rfl) dX5_seen_17 ?_
    have hf := Option.some.inj hf
    subst hf
    exact r_iret hC dX5_seen_20 hk
  · have hf := ite_t c1 hf
    refine r_iconst (v := (-1)) hC dX5_seen_7 (by decide) ?_
    have hf := Option.some.inj hf
    subst hf
    exact r_iret hC dX5_seen_8 hk
set_option maxHeartbeats 4000000 in
set_option maxRecDepth 100000 in
theorem c_X5_seen {l : Launch} {G : zG} {N : Nat} {u : zS} {v1 : Int32} {r : Int32} (hf : f_X5_seen N u v1 = some r) : zM l dscC yX5_seen cX5_seen 2 (some .int) rm_X5_seen G [.ref (G.1 0), .int v1] u (some (.int r)) u := zM.of (by decide) (Nat.le_of_ble_eq_true rfl) (fun X hC => t_X5_seen hC r hf ⟨rfl, rfl⟩)
set_option maxHeartbeats 4000000 in
set_option maxRecDepth 100000 in
theorem t_X5_type {l : Launch} {G : zG} {X : zX} {K : Option Value → zS → Prop} (hC : zC G X cX5_type 2 RX5 (some .int)) {u : zS} {v1 : Int32} (o : Int32 × zS) (hf : f_X5_type u v1 = some o) (hk : K (some (.int o.1)) o.2) : zW dscC l rm_X5_type G X K u 0 [(0, .ref (G.1 0)), (1, .int v1)] [] := by
  unfold f_X5_type at hf
  refine r_iload_n hC dX5_type_0 1 rfl ?_
  refine r_bipush (v := 32) hC dX5_type_1 (by decide) ?_
  refine r_bipush (v := 126) hC dX5_type_3 (by decide) ?_
  refine r_csi (As := [.int v1, .int 32, .int 126]) (rest := []) hC c_X5_within ys_X5_within ml_RX5_83 ⟨by decide, by decide, rfl, rfl⟩ rfl rfl (Nat.le_of_ble_eq_true rfl) dX5_type_5 ?_
  refine r_if_ne (tgt := 13) hC dX5_type_8 (by decide) (fun c1 => ?_) (fun c1 => ?_)
  · have hf := ite_f c1 hf
    refine r_aload_n hC dX5_type_13 0 rfl ?_
    refine r_getr hC fd_RX5_25 dC_0 rfl dX5_type_14 ?_
    refine r_cvi (As := []) (rest := []) hC c_X4_isFull yv_X4_isFull ml_RX5_130 dC_31 ⟨by decide, by decide, rfl, rfl⟩ rfl rfl (Nat.le_of_ble_eq_true rfl) dX5_type_17 ?_
    refine r_if_eq (tgt := 26) hC dX5_type_20 (by decide) (fun c2 => ?_) (fun c2 => ?_)
    · have hf := ite_t c2 hf
      refine r_aload_n hC dX5_type_26 0 rfl ?_
      refine r_getr hC fd_RX5_25 dC_0 rfl dX5_type_27 ?_
      refine r_iload_n hC dX5_type_30 1 rfl ?_
      obtain ⟨r3, er3, hf⟩ := ob_some hf
      refine r_cvi (As := [.int v1]) (rest := []) hC (c_X4_put er3) yv_X4_put ml_RX5_134 dC_31 ⟨by decide, by decide, rfl, rfl⟩ rfl rfl (Nat.le_of_ble_eq_true rfl) dX5_type_31 ?_
      have hf := Option.some.inj hf
      subst hf
      exact r_iret hC dX5_type_34 hk
    · have hf := ite_f c2 hf
      refine r_bipush (v := (-3)) hC dX5_type_23 (by decide) ?_
      have hf := Option.some.inj hf
      subst hf
      exact r_iret hC dX5_type_25 hk
  · have hf := ite_t c1 hf
    refine r_iconst (v := (-1)) hC dX5_type_11 (by decide) ?_
    have hf := Option.some.inj hf
    subst hf
    exact r_iret hC dX5_type_12 hk
set_option maxHeartbeats 4000000 in
set_option maxRecDepth 100000 in
theorem c_X5_type {l : Launch} {G : zG} {u : zS} {v1 : Int32} {r : Int32 × zS} (hf : f_X5_type u v1 = some r) : zM l dscC yX5_type cX5_type 2 (some .int) rm_X5_type G [.ref (G.1 0), .int v1] u (some (.int r.1)) r.2 := zM.of (by decide) (Nat.le_of_ble_eq_true rfl) (fun X hC => t_X5_type hC r hf ⟨rfl, rfl⟩)
set_option maxHeartbeats 4000000 in
set_option maxRecDepth 100000 in
theorem t_X5_ring {l : Launch} {G : zG} {X : zX} {K : Option Value → zS → Prop} (hC : zC G X cX5_ring 3 RX5 (some .int)) {N : Nat} {u : zS} (o : Int32 × zS) (hf : f_X5_ring N u = some o) (hk : K (some (.int o.1)) o.2) : zW dscC l rm_X5_ring G X K u 0 [(0, .ref (G.1 0))] [] := by
  unfold f_X5_ring at hf
  refine r_aload_n hC dX5_ring_0 0 rfl ?_
  refine r_getr hC fd_RX5_25 dC_0 rfl dX5_ring_1 ?_
  refine r_aload_n hC dX5_ring_4 0 rfl ?_
  refine r_getr hC fd_RX5_19 dC_0 rfl dX5_ring_5 ?_
  obtain ⟨r1, er1, hf⟩ := ob_some hf
  refine r_cvi (As := [.ref (G.1 21)]) (rest := []) hC (c_X4_readInto er1) yv_X4_readInto ml_RX5_137 dC_31 ⟨by decide, by decide, rfl, rfl⟩ rfl rfl (Nat.le_of_ble_eq_true rfl) dX5_ring_8 ?_
  refine r_istore_n (lv' := [(1, .int r1.1), (0, .ref (G.1 0))]) hC dX5_ring_11 rfl (by decide) rfl ?_
  refine r_bipush (v := (-20)) hC dX5_ring_12 (by decide) ?_
  refine r_aload_n hC dX5_ring_14 1 rfl ?_
  refine r_getr hC fd_RX5_25 dC_0 rfl dX5_ring_15 ?_
  refine r_geti hC fd_RX5_141 dC_31 rfl dX5_ring_18 ?_
  refine r_isub hC dX5_ring_21 ?_
  refine r_istore_n (lv' := [(2, .int ((-20) - (r1.2.1 31 2))), (1, .int r1.1), (0, .ref (G.1 0))]) hC dX5_ring_22 rfl (by decide) rfl ?_
  refine r_aload_n hC dX5_ring_23 2 rfl ?_
  refine r_getr hC fd_RX5_25 dC_0 rfl dX5_ring_24 ?_
  obtain ⟨r2, er2⟩ : ∃ z, z = f_X4_wipe r1.2 := ⟨_, rfl⟩
  have hf := olet_at er2 hf
  refine r_cvv (As := []) (rest := []) hC (c_X4_wipe (r := r2) er2.symm) yv_X4_wipe ml_RX5_144 dC_31 ⟨by decide, by decide, rfl, rfl⟩ rfl rfl (Nat.le_of_ble_eq_true rfl) dX5_ring_27 ?_
  refine r_iload_n hC dX5_ring_30 1 rfl ?_
  refine r_if_ne (tgt := 36) hC dX5_ring_31 (by decide) (fun c3 => ?_) (fun c3 => ?_)
  · have hf := ite_f c3 hf
    refine r_aload_n hC dX5_ring_36 2 rfl ?_
    refine r_getr hC fd_RX5_19 dC_0 rfl dX5_ring_37 ?_
    refine r_aload_n hC dX5_ring_40 2 rfl ?_
    refine r_getr hC fd_RX5_10 dC_0 rfl dX5_ring_41 ?_
    refine r_geti hC fd_RX5_147 dC_1 rfl dX5_ring_44 ?_
    refine r_puti hC fp_RX5_147 dC_21 rfl dX5_ring_47 ?_
    refine r_tops (fun u4 eu4 => ?_)
    have hf := olet_at eu4 hf
    refine r_aload_n hC dX5_ring_50 2 rfl ?_
    refine r_getr hC fd_RX5_10 dC_0 rfl dX5_ring_51 ?_
    refine r_aload_n hC dX5_ring_54 2 rfl ?_
    refine r_getr hC fd_RX5_19 dC_0 rfl dX5_ring_55 ?_
    obtain ⟨r5, er5⟩ : ∃ z, z = f_X1_becomeLike 1 21 u4 := ⟨_, rfl⟩
    have hf := olet_at er5 hf
    refine r_cvv (As := [.ref (G.1 21)]) (rest := []) hC (c_X1_becomeLike isR_1 isR_21 (r := r5) er5.symm) yv_X1_becomeLike ml_RX5_150 dC_1 ⟨by decide, by decide, rfl, rfl⟩ rfl rfl (Nat.le_of_ble_eq_true rfl) dX5_ring_58 ?_
    refine r_aload_n hC dX5_ring_61 2 rfl ?_
    refine r_getr hC fd_RX5_10 dC_0 rfl dX5_ring_62 ?_
    refine r_geti hC fd_RX5_58 dC_1 rfl dX5_ring_65 ?_
    have hf := Option.some.inj hf
    subst hf
    exact r_iret hC dX5_ring_68 hk
  · have hf := ite_t c3 hf
    refine r_iload_n hC dX5_ring_34 0 rfl ?_
    have hf := Option.some.inj hf
    subst hf
    exact r_iret hC dX5_ring_35 hk
set_option maxHeartbeats 4000000 in
set_option maxRecDepth 100000 in
theorem c_X5_ring {l : Launch} {G : zG} {N : Nat} {u : zS} {r : Int32 × zS} (hf : f_X5_ring N u = some r) : zM l dscC yX5_ring cX5_ring 3 (some .int) rm_X5_ring G [.ref (G.1 0)] u (some (.int r.1)) r.2 := zM.of (by decide) (Nat.le_of_ble_eq_true rfl) (fun X hC => t_X5_ring hC r hf ⟨rfl, rfl⟩)
