set_option maxHeartbeats 4000000 in
set_option maxRecDepth 100000 in
theorem t_X6_seed {l : Launch} {G : zG} {X : zX} {K : Option Value → zS → Prop} (hC : zC G X cX6_seed 3 RX6 (some .int)) {u : zS} {v1 : Int32} (o : Int32 × zS) (hf : f_X6_seed u v1 = o) (hk : K (some (.int o.1)) o.2) : zW dscM l rm_X6_seed G X K u 0 [(0, .ref (G.1 0)), (1, .int v1)] [] := by
  unfold f_X6_seed at hf
  refine r_iload_n hC dX6_seed_0 1 rfl ?_
  refine r_if_ge (tgt := 6) hC dX6_seed_1 (by decide) (fun c1 => ?_) (fun c1 => ?_)
  · have hf := ite_t c1 hf
    refine r_aload_n hC dX6_seed_6 0 rfl ?_
    refine r_getr hC fd_RX6_7 dM_0 rfl dX6_seed_7 ?_
    refine r_iconst (v := 4) hC dX6_seed_10 (by decide) ?_
    refine r_ialdK (j := 4) hC dM_1 (inK (by decide)) dX6_seed_11 ?_
    refine r_istore_n (lv' := [(2, .int (u.1 1 4)), (0, .ref (G.1 0)), (1, .int v1)]) hC dX6_seed_12 rfl (by decide) rfl ?_
    refine r_aload_n hC dX6_seed_13 1 rfl ?_
    refine r_getr hC fd_RX6_7 dM_0 rfl dX6_seed_14 ?_
    refine r_iconst (v := 4) hC dX6_seed_17 (by decide) ?_
    refine r_iload_n hC dX6_seed_18 2 rfl ?_
    refine r_iastK (j := 4) hC dM_1 (inK (by decide)) dX6_seed_19 ?_
    refine r_tops (fun u2 eu2 => ?_)
    have hf := olet_at eu2 hf
    refine r_iload_n hC dX6_seed_20 0 rfl ?_
    subst hf
    exact r_iret hC dX6_seed_21 hk
  · have hf := ite_f c1 hf
    refine r_iconst (v := (-1)) hC dX6_seed_4 (by decide) ?_
    subst hf
    exact r_iret hC dX6_seed_5 hk
set_option maxHeartbeats 4000000 in
set_option maxRecDepth 100000 in
theorem c_X6_seed {l : Launch} {G : zG} {u : zS} {v1 : Int32} {r : Int32 × zS} (hf : f_X6_seed u v1 = r) : zM l dscM yX6_seed cX6_seed 3 (some .int) rm_X6_seed G [.ref (G.1 0), .int v1] u (some (.int r.1)) r.2 := zM.of (by decide) (Nat.le_of_ble_eq_true rfl) (fun X hC => t_X6_seed hC r hf ⟨rfl, rfl⟩)
set_option maxHeartbeats 4000000 in
set_option maxRecDepth 100000 in
theorem t_X6_goesBy_L5_B {l : Launch} {G : zG} {X : zX} {K : Option Value → zS → Prop} (hC : zC G X cX6_goesBy 5 RX6 (some .int)) {N : Nat} {u : zS} {v2 : Int32} {rec : Int32 → Int32 → Option (Int32)} (hrec : ∀ (v3 : Int32) (v4 : Int32) (o : Int32), rec v3 v4 = some o → zW dscM l rm_X6_goesBy G X K u 47 [(3, .int o)] [] → zW dscM l rm_X6_goesBy G X K u 5 [(0, .ref (G.1 0)), (2, .int v2), (3, .int v3), (4, .int v4)] []) : ∀ (v3 : Int32) (v4 : Int32) (o : Int32), f_X6_goesBy_L5_B N u v2 rec v3 v4 = some o → zW dscM l rm_X6_goesBy G X K u 47 [(3, .int o)] [] → zW dscM l rm_X6_goesBy G X K u 5 [(0, .ref (G.1 0)), (2, .int v2), (3, .int v3), (4, .int v4)] [] := by
  intro v3 v4 o hf hk
  unfold f_X6_goesBy_L5_B at hf
  refine r_iload hC dX6_goesBy_5 3 rfl ?_
  refine r_iload_n hC dX6_goesBy_7 1 rfl ?_
  refine r_icmp_ge (tgt := 47) hC dX6_goesBy_8 (by decide) (fun c1 => ?_) (fun c1 => ?_)
  · have hf := ite_t c1 hf
    have hf := Option.some.inj hf
    subst hf
    refine r_loc [2] rfl ?_
    exact hk
  · have hf := ite_f c1 hf
    refine r_aload_n hC dX6_goesBy_11 0 rfl ?_
    refine r_aload_n hC dX6_goesBy_12 0 rfl ?_
    refine r_getr hC fd_RX6_7 dM_0 rfl dX6_goesBy_13 ?_
    refine r_bipush (v := 23) hC dX6_goesBy_16 (by decide) ?_
    refine r_aload_n hC dX6_goesBy_18 0 rfl ?_
    refine r_getr hC fd_RX6_7 dM_0 rfl dX6_goesBy_19 ?_
    refine r_iconst (v := 3) hC dX6_goesBy_22 (by decide) ?_
    refine r_ialdK (j := 3) hC dM_1 (inK (by decide)) dX6_goesBy_23 ?_
    refine r_iload hC dX6_goesBy_24 3 rfl ?_
    refine r_iadd hC dX6_goesBy_26 ?_
    refine r_aload_n hC dX6_goesBy_27 0 rfl ?_
    refine r_getr hC fd_RX6_7 dM_0 rfl dX6_goesBy_28 ?_
    refine r_iconst (v := 2) hC dX6_goesBy_31 (by decide) ?_
    refine r_ialdK (j := 2) hC dM_1 (inK (by decide)) dX6_goesBy_32 ?_
    obtain ⟨g2, hf⟩ := og_ne hf
    refine r_irem (x := ((u.1 1 3) + v4)) (y := (u.1 1 2)) hC dX6_goesBy_33 g2 ?_
    refine r_iadd hC dX6_goesBy_34 ?_
    obtain ⟨g3, hf⟩ := og_in hf
    refine r_iald hC dM_1 g3 dX6_goesBy_35 ?_
    refine r_iload_n hC dX6_goesBy_36 2 rfl ?_
    obtain ⟨r4, er4, hf⟩ := ob_some hf
    refine r_cvi (As := [.int (u.1 1 (Int32.toNatClampNeg (23 + (((u.1 1 3) + v4) - ((u.1 1 3) + v4) / (u.1 1 2) * (u.1 1 2))))), .int v3]) (rest := []) hC (c_X6_leadsOf er4) yv_X6_leadsOf ml_RX6_67 dM_0 ⟨by decide, by decide, rfl, rfl⟩ rfl rfl (Nat.le_of_ble_eq_true rfl) dX6_goesBy_37 ?_
    refine r_istore_n (lv' := [(3, .int r4), (0, .ref (G.1 0)), (2, .int v2), (4, .int v4)]) hC dX6_goesBy_40 rfl (by decide) rfl ?_
    refine r_iinc (v := 1) (lv' := [(4, .int (v4 + 1)), (3, .int r4), (0, .ref (G.1 0)), (2, .int v2)]) hC dX6_goesBy_41 3 rfl (by decide) (by decide) rfl ?_
    refine r_goto (tgt := 5) hC dX6_goesBy_44 (by decide) ?_
    refine r_loc [2, 3, 1, 0] rfl ?_
    exact hrec r4 (v4 + 1) o hf hk
set_option maxHeartbeats 4000000 in
set_option maxRecDepth 100000 in
theorem t_X6_goesBy_L5 {l : Launch} {G : zG} {X : zX} {K : Option Value → zS → Prop} (hC : zC G X cX6_goesBy 5 RX6 (some .int)) {N : Nat} {u : zS} {v2 : Int32} : ∀ (n : Nat) (v3 : Int32) (v4 : Int32) (o : Int32), f_X6_goesBy_L5 N u v2 n v3 v4 = some o → zW dscM l rm_X6_goesBy G X K u 47 [(3, .int o)] [] → zW dscM l rm_X6_goesBy G X K u 5 [(0, .ref (G.1 0)), (2, .int v2), (3, .int v3), (4, .int v4)] [] := by
  intro n
  induction n with
  | zero => intro v3 v4 o hf; cases hf
  | succ n ih => intro v3 v4 o hf hk; exact t_X6_goesBy_L5_B hC (rec := f_X6_goesBy_L5 N u v2 n) ih v3 v4 o hf hk
set_option maxHeartbeats 4000000 in
set_option maxRecDepth 100000 in
theorem t_X6_goesBy {l : Launch} {G : zG} {X : zX} {K : Option Value → zS → Prop} (hC : zC G X cX6_goesBy 5 RX6 (some .int)) {N : Nat} {u : zS} {v1 : Int32} {v2 : Int32} (o : Int32) (hf : f_X6_goesBy N u v1 v2 = some o) (hk : K (some (.int o)) u) : zW dscM l rm_X6_goesBy G X K u 0 [(0, .ref (G.1 0)), (1, .int v1), (2, .int v2)] [] := by
  unfold f_X6_goesBy at hf
  refine r_iload_n hC dX6_goesBy_0 1 rfl ?_
  refine r_istore_n (lv' := [(3, .int v1), (0, .ref (G.1 0)), (1, .int v1), (2, .int v2)]) hC dX6_goesBy_1 rfl (by decide) rfl ?_
  refine r_iconst (v := 0) hC dX6_goesBy_2 (by decide) ?_
  refine r_istore (lv' := [(4, .int 0), (3, .int v1), (0, .ref (G.1 0)), (1, .int v1), (2, .int v2)]) hC dX6_goesBy_3 (by decide) rfl ?_
  refine r_loc [2, 4, 1, 0] rfl ?_
  obtain ⟨q5, eq5, hf⟩ := ob_some hf
  refine t_X6_goesBy_L5 hC N v1 0 q5 eq5 ?_
  refine r_iload_n hC dX6_goesBy_47 0 rfl ?_
  have hf := Option.some.inj hf
  subst hf
  exact r_iret hC dX6_goesBy_48 hk
set_option maxHeartbeats 4000000 in
set_option maxRecDepth 100000 in
theorem c_X6_goesBy {l : Launch} {G : zG} {N : Nat} {u : zS} {v1 : Int32} {v2 : Int32} {r : Int32} (hf : f_X6_goesBy N u v1 v2 = some r) : zM l dscM yX6_goesBy cX6_goesBy 5 (some .int) rm_X6_goesBy G [.ref (G.1 0), .int v1, .int v2] u (some (.int r)) u := zM.of (by decide) (Nat.le_of_ble_eq_true rfl) (fun X hC => t_X6_goesBy hC r hf ⟨rfl, rfl⟩)
set_option maxHeartbeats 4000000 in
set_option maxRecDepth 100000 in
theorem t_X6_ringOf_L14_B {l : Launch} {G : zG} {X : zX} {K : Option Value → zS → Prop} (hC : zC G X cX6_ringOf 4 RX6 (some .int)) {N : Nat} {u : zS} {v1 : Int32} {rec : Int32 → Int32 → Option (Int32)} (hrec : ∀ (v2 : Int32) (v3 : Int32) (o : Int32), rec v2 v3 = some o → zW dscM l rm_X6_ringOf G X K u 37 [(2, .int o)] [] → zW dscM l rm_X6_ringOf G X K u 14 [(0, .ref (G.1 0)), (1, .int v1), (2, .int v2), (3, .int v3)] []) : ∀ (v2 : Int32) (v3 : Int32) (o : Int32), f_X6_ringOf_L14_B N u v1 rec v2 v3 = some o → zW dscM l rm_X6_ringOf G X K u 37 [(2, .int o)] [] → zW dscM l rm_X6_ringOf G X K u 14 [(0, .ref (G.1 0)), (1, .int v1), (2, .int v2), (3, .int v3)] [] := by
  intro v2 v3 o hf hk
  unfold f_X6_ringOf_L14_B at hf
  refine r_iload_n hC dX6_ringOf_14 3 rfl ?_
  refine r_iload_n hC dX6_ringOf_15 1 rfl ?_
  refine r_icmp_eq (tgt := 37) hC dX6_ringOf_16 (by decide) (fun c2 => ?_) (fun c2 => ?_)
  · have hf := ite_t c2 hf
    have hf := Option.some.inj hf
    subst hf
    refine r_loc [2] rfl ?_
    exact hk
  · have hf := ite_f c2 hf
    refine r_aload_n hC dX6_ringOf_19 0 rfl ?_
    refine r_iload_n hC dX6_ringOf_20 3 rfl ?_
    refine r_aload_n hC dX6_ringOf_21 0 rfl ?_
    refine r_getr hC fd_RX6_7 dM_0 rfl dX6_ringOf_22 ?_
    refine r_iconst (v := 2) hC dX6_ringOf_25 (by decide) ?_
    refine r_ialdK (j := 2) hC dM_1 (inK (by decide)) dX6_ringOf_26 ?_
    obtain ⟨r3, er3, hf⟩ := ob_some hf
    refine r_cvi (As := [.int v3, .int (u.1 1 2)]) (rest := []) hC (c_X6_goesBy er3) yv_X6_goesBy ml_RX6_168 dM_0 ⟨by decide, by decide, rfl, rfl⟩ rfl rfl (Nat.le_of_ble_eq_true rfl) dX6_ringOf_27 ?_
    refine r_istore_n (lv' := [(3, .int r3), (0, .ref (G.1 0)), (1, .int v1), (2, .int v2)]) hC dX6_ringOf_30 rfl (by decide) rfl ?_
    refine r_iinc (v := 1) (lv' := [(2, .int (v2 + 1)), (3, .int r3), (0, .ref (G.1 0)), (1, .int v1)]) hC dX6_ringOf_31 3 rfl (by decide) (by decide) rfl ?_
    refine r_goto (tgt := 14) hC dX6_ringOf_34 (by decide) ?_
    refine r_loc [2, 3, 0, 1] rfl ?_
    exact hrec (v2 + 1) r3 o hf hk
set_option maxHeartbeats 4000000 in
set_option maxRecDepth 100000 in
theorem t_X6_ringOf_L14 {l : Launch} {G : zG} {X : zX} {K : Option Value → zS → Prop} (hC : zC G X cX6_ringOf 4 RX6 (some .int)) {N : Nat} {u : zS} {v1 : Int32} : ∀ (n : Nat) (v2 : Int32) (v3 : Int32) (o : Int32), f_X6_ringOf_L14 N u v1 n v2 v3 = some o → zW dscM l rm_X6_ringOf G X K u 37 [(2, .int o)] [] → zW dscM l rm_X6_ringOf G X K u 14 [(0, .ref (G.1 0)), (1, .int v1), (2, .int v2), (3, .int v3)] [] := by
  intro n
  induction n with
  | zero => intro v2 v3 o hf; cases hf
  | succ n ih => intro v2 v3 o hf hk; exact t_X6_ringOf_L14_B hC (rec := f_X6_ringOf_L14 N u v1 n) ih v2 v3 o hf hk
set_option maxHeartbeats 4000000 in
set_option maxRecDepth 100000 in
theorem t_X6_ringOf {l : Launch} {G : zG} {X : zX} {K : Option Value → zS → Prop} (hC : zC G X cX6_ringOf 4 RX6 (some .int)) {N : Nat} {u : zS} {v1 : Int32} (o : Int32) (hf : f_X6_ringOf N u v1 = some o) (hk : K (some (.int o)) u) : zW dscM l rm_X6_ringOf G X K u 0 [(0, .ref (G.1 0)), (1, .int v1)] [] := by
  unfold f_X6_ringOf at hf
  refine r_iconst (v := 1) hC dX6_ringOf_0 (by decide) ?_
  refine r_istore_n (lv' := [(2, .int 1), (0, .ref (G.1 0)), (1, .int v1)]) hC dX6_ringOf_1 rfl (by decide) rfl ?_
  refine r_aload_n hC dX6_ringOf_2 1 rfl ?_
  refine r_iload_n hC dX6_ringOf_3 2 rfl ?_
  refine r_aload_n hC dX6_ringOf_4 1 rfl ?_
  refine r_getr hC fd_RX6_7 dM_0 rfl dX6_ringOf_5 ?_
  refine r_iconst (v := 2) hC dX6_ringOf_8 (by decide) ?_
  refine r_ialdK (j := 2) hC dM_1 (inK (by decide)) dX6_ringOf_9 ?_
  obtain ⟨r1, er1, hf⟩ := ob_some hf
  refine r_cvi (As := [.int v1, .int (u.1 1 2)]) (rest := []) hC (c_X6_goesBy er1) yv_X6_goesBy ml_RX6_168 dM_0 ⟨by decide, by decide, rfl, rfl⟩ rfl rfl (Nat.le_of_ble_eq_true rfl) dX6_ringOf_10 ?_
  refine r_istore_n (lv' := [(3, .int r1), (2, .int 1), (0, .ref (G.1 0)), (1, .int v1)]) hC dX6_ringOf_13 rfl (by decide) rfl ?_
  refine r_loc [2, 3, 1, 0] rfl ?_
  obtain ⟨q4, eq4, hf⟩ := ob_some hf
  refine t_X6_ringOf_L14 hC N 1 r1 q4 eq4 ?_
  refine r_iload_n hC dX6_ringOf_37 0 rfl ?_
  have hf := Option.some.inj hf
  subst hf
  exact r_iret hC dX6_ringOf_38 hk
set_option maxHeartbeats 4000000 in
set_option maxRecDepth 100000 in
theorem c_X6_ringOf {l : Launch} {G : zG} {N : Nat} {u : zS} {v1 : Int32} {r : Int32} (hf : f_X6_ringOf N u v1 = some r) : zM l dscM yX6_ringOf cX6_ringOf 4 (some .int) rm_X6_ringOf G [.ref (G.1 0), .int v1] u (some (.int r)) u := zM.of (by decide) (Nat.le_of_ble_eq_true rfl) (fun X hC => t_X6_ringOf hC r hf ⟨rfl, rfl⟩)
set_option maxHeartbeats 4000000 in
set_option maxRecDepth 100000 in
theorem t_X6_behind_L38_B {l : Launch} {G : zG} {X : zX} {K : Option Value → zS → Prop} (hC : zC G X cX6_behind 6 RX6 (some .int)) {N : Nat} {u : zS} {v2 : Int32} {v4 : Int32} {rec : Int32 → Int32 → Option (Int32)} (hrec : ∀ (v3 : Int32) (v5 : Int32) (o : Int32), rec v3 v5 = some o → zW dscM l rm_X6_behind G X K u 63 [(0, .ref (G.1 0)), (2, .int v2), (3, .int o)] [] → zW dscM l rm_X6_behind G X K u 38 [(0, .ref (G.1 0)), (2, .int v2), (3, .int v3), (4, .int v4), (5, .int v5)] []) : ∀ (v3 : Int32) (v5 : Int32) (o : Int32), f_X6_behind_L38_B N u v2 v4 rec v3 v5 = some o → zW dscM l rm_X6_behind G X K u 63 [(0, .ref (G.1 0)), (2, .int v2), (3, .int o)] [] → zW dscM l rm_X6_behind G X K u 38 [(0, .ref (G.1 0)), (2, .int v2), (3, .int v3), (4, .int v4), (5, .int v5)] [] := by
  intro v3 v5 o hf hk
  unfold f_X6_behind_L38_B at hf
  refine r_iload hC dX6_behind_38 4 rfl ?_
  refine r_iload hC dX6_behind_40 3 rfl ?_
  refine r_icmp_ge (tgt := 63) hC dX6_behind_42 (by decide) (fun c6 => ?_) (fun c6 => ?_)
  · have hf := ite_t c6 hf
    have hf := Option.some.inj hf
    subst hf
    refine r_loc [0, 1, 2] rfl ?_
    exact hk
  · have hf := ite_f c6 hf
    refine r_aload_n hC dX6_behind_45 0 rfl ?_
    refine r_iload_n hC dX6_behind_46 2 rfl ?_
    refine r_aload_n hC dX6_behind_47 0 rfl ?_
    refine r_getr hC fd_RX6_7 dM_0 rfl dX6_behind_48 ?_
    refine r_iconst (v := 2) hC dX6_behind_51 (by decide) ?_
    refine r_ialdK (j := 2) hC dM_1 (inK (by decide)) dX6_behind_52 ?_
    obtain ⟨r7, er7, hf⟩ := ob_some hf
    refine r_cvi (As := [.int v3, .int (u.1 1 2)]) (rest := []) hC (c_X6_goesBy er7) yv_X6_goesBy ml_RX6_168 dM_0 ⟨by decide, by decide, rfl, rfl⟩ rfl rfl (Nat.le_of_ble_eq_true rfl) dX6_behind_53 ?_
    refine r_istore_n (lv' := [(3, .int r7), (0, .ref (G.1 0)), (2, .int v2), (4, .int v4), (5, .int v5)]) hC dX6_behind_56 rfl (by decide) rfl ?_
    refine r_iinc (v := 1) (lv' := [(5, .int (v5 + 1)), (3, .int r7), (0, .ref (G.1 0)), (2, .int v2), (4, .int v4)]) hC dX6_behind_57 4 rfl (by decide) (by decide) rfl ?_
    refine r_goto (tgt := 38) hC dX6_behind_60 (by decide) ?_
    refine r_loc [2, 3, 1, 4, 0] rfl ?_
    exact hrec r7 (v5 + 1) o hf hk
set_option maxHeartbeats 4000000 in
set_option maxRecDepth 100000 in
theorem t_X6_behind_L38 {l : Launch} {G : zG} {X : zX} {K : Option Value → zS → Prop} (hC : zC G X cX6_behind 6 RX6 (some .int)) {N : Nat} {u : zS} {v2 : Int32} {v4 : Int32} : ∀ (n : Nat) (v3 : Int32) (v5 : Int32) (o : Int32), f_X6_behind_L38 N u v2 v4 n v3 v5 = some o → zW dscM l rm_X6_behind G X K u 63 [(0, .ref (G.1 0)), (2, .int v2), (3, .int o)] [] → zW dscM l rm_X6_behind G X K u 38 [(0, .ref (G.1 0)), (2, .int v2), (3, .int v3), (4, .int v4), (5, .int v5)] [] := by
  intro n
  induction n with
  | zero => intro v3 v5 o hf; cases hf
  | succ n ih => intro v3 v5 o hf hk; exact t_X6_behind_L38_B hC (rec := f_X6_behind_L38 N u v2 v4 n) ih v3 v5 o hf hk
set_option maxHeartbeats 4000000 in
set_option maxRecDepth 100000 in
theorem t_X6_behind {l : Launch} {G : zG} {X : zX} {K : Option Value → zS → Prop} (hC : zC G X cX6_behind 6 RX6 (some .int)) {N : Nat} {u : zS} {v1 : Int32} {v2 : Int32} (o : Int32) (hf : f_X6_behind N u v1 v2 = some o) (hk : K (some (.int o)) u) : zW dscM l rm_X6_behind G X K u 0 [(0, .ref (G.1 0)), (1, .int v1), (2, .int v2)] [] := by
  unfold f_X6_behind at hf
  refine r_iload_n hC dX6_behind_0 1 rfl ?_
  refine r_bipush (v := (-4)) hC dX6_behind_1 (by decide) ?_
  refine r_icmp_eq (tgt := 15) hC dX6_behind_3 (by decide) (fun c1 => ?_) (fun c1 => ?_)
  · have hf := ite_t c1 hf
    refine r_iload_n hC dX6_behind_15 1 rfl ?_
    have hf := Option.some.inj hf
    subst hf
    exact r_iret hC dX6_behind_16 hk
  · have hf := ite_f c1 hf
    refine r_aload_n hC dX6_behind_6 0 rfl ?_
    refine r_getr hC fd_RX6_7 dM_0 rfl dX6_behind_7 ?_
    refine r_iconst (v := 2) hC dX6_behind_10 (by decide) ?_
    refine r_ialdK (j := 2) hC dM_1 (inK (by decide)) dX6_behind_11 ?_
    refine r_if_ne (tgt := 17) hC dX6_behind_12 (by decide) (fun c2 => ?_) (fun c2 => ?_)
    · have hf := ite_f c2 hf
      refine r_iload_n hC dX6_behind_17 1 rfl ?_
      refine r_istore_n (lv' := [(3, .int v1), (0, .ref (G.1 0)), (1, .int v1), (2, .int v2)]) hC dX6_behind_18 rfl (by decide) rfl ?_
      refine r_iload_n hC dX6_behind_19 3 rfl ?_
      refine r_aload_n hC dX6_behind_20 1 rfl ?_
      refine r_getr hC fd_RX6_7 dM_0 rfl dX6_behind_21 ?_
      refine r_iconst (v := 2) hC dX6_behind_24 (by decide) ?_
      refine r_ialdK (j := 2) hC dM_1 (inK (by decide)) dX6_behind_25 ?_
      obtain ⟨g3, hf⟩ := og_ne hf
      refine r_idiv (x := v2) (y := (u.1 1 2)) hC dX6_behind_26 g3 ?_
      refine r_aload_n hC dX6_behind_27 1 rfl ?_
      refine r_iload_n hC dX6_behind_28 2 rfl ?_
      obtain ⟨r4, er4, hf⟩ := ob_some hf
      refine r_cvi (As := [.int v1]) (rest := [.int (v2 / (u.1 1 2))]) hC (c_X6_ringOf er4) yv_X6_ringOf ml_RX6_171 dM_0 ⟨by decide, by decide, rfl, rfl⟩ rfl rfl (Nat.le_of_ble_eq_true rfl) dX6_behind_29 ?_
      obtain ⟨g5, hf⟩ := og_ne hf
      refine r_irem (x := (v2 / (u.1 1 2))) (y := r4) hC dX6_behind_32 g5 ?_
      refine r_istore (lv' := [(4, .int ((v2 / (u.1 1 2)) - (v2 / (u.1 1 2)) / r4 * r4)), (3, .int v1), (0, .ref (G.1 0)), (1, .int v1), (2, .int v2)]) hC dX6_behind_33 (by decide) rfl ?_
      refine r_iconst (v := 0) hC dX6_behind_35 (by decide) ?_
      refine r_istore (lv' := [(5, .int 0), (4, .int ((v2 / (u.1 1 2)) - (v2 / (u.1 1 2)) / r4 * r4)), (3, .int v1), (0, .ref (G.1 0)), (1, .int v1), (2, .int v2)]) hC dX6_behind_36 (by decide) rfl ?_
      refine r_loc [3, 5, 2, 1, 0] rfl ?_
      obtain ⟨q8, eq8, hf⟩ := ob_some hf
      refine t_X6_behind_L38 hC N v1 0 q8 eq8 ?_
      refine r_aload_n hC dX6_behind_63 0 rfl ?_
      refine r_iload_n hC dX6_behind_64 2 rfl ?_
      refine r_iload_n hC dX6_behind_65 1 rfl ?_
      refine r_aload_n hC dX6_behind_66 0 rfl ?_
      refine r_getr hC fd_RX6_7 dM_0 rfl dX6_behind_67 ?_
      refine r_iconst (v := 2) hC dX6_behind_70 (by decide) ?_
      refine r_ialdK (j := 2) hC dM_1 (inK (by decide)) dX6_behind_71 ?_
      obtain ⟨g9, hf⟩ := og_ne hf
      refine r_irem (x := v2) (y := (u.1 1 2)) hC dX6_behind_72 g9 ?_
      obtain ⟨r10, er10, hf⟩ := ob_some hf
      refine r_cvi (As := [.int q8, .int (v2 - v2 / (u.1 1 2) * (u.1 1 2))]) (rest := []) hC (c_X6_goesBy er10) yv_X6_goesBy ml_RX6_168 dM_0 ⟨by decide, by decide, rfl, rfl⟩ rfl rfl (Nat.le_of_ble_eq_true rfl) dX6_behind_73 ?_
      have hf := Option.some.inj hf
      subst hf
      exact r_iret hC dX6_behind_76 hk
    · have hf := ite_t c2 hf
      refine r_iload_n hC dX6_behind_15 1 rfl ?_
      have hf := Option.some.inj hf
      subst hf
      exact r_iret hC dX6_behind_16 hk
set_option maxHeartbeats 4000000 in
set_option maxRecDepth 100000 in
theorem c_X6_behind {l : Launch} {G : zG} {N : Nat} {u : zS} {v1 : Int32} {v2 : Int32} {r : Int32} (hf : f_X6_behind N u v1 v2 = some r) : zM l dscM yX6_behind cX6_behind 6 (some .int) rm_X6_behind G [.ref (G.1 0), .int v1, .int v2] u (some (.int r)) u := zM.of (by decide) (Nat.le_of_ble_eq_true rfl) (fun X hC => t_X6_behind hC r hf ⟨rfl, rfl⟩)
set_option maxHeartbeats 4000000 in
set_option maxRecDepth 100000 in
theorem t_X6_isTime {l : Launch} {G : zG} {X : zX} {K : Option Value → zS → Prop} (hC : zC G X cX6_isTime 1 RX6 (some .boolean)) {u : zS} {v0 : Int32} (o : Int32) (hf : f_X6_isTime v0 = o) (hk : K (some (.int o)) u) : zW dscM l rm_X6_isTime G X K u 0 [(0, .int v0)] [] := by
  unfold f_X6_isTime at hf
  refine r_iload_n hC dX6_isTime_0 0 rfl ?_
  refine r_i2l hC dX6_isTime_1 ?_
  refine r_lconst (v := 0) hC dX6_isTime_2 (by decide) ?_
  refine r_ldc2 hC cn_RX6_174 dX6_isTime_3 ?_
  refine r_csi (As := [.long (Int32.toInt64 v0), .long 0, .long 2000000000]) (rest := []) hC c_X6_in ys_X6_in ml_RX6_52 ⟨by decide, by decide, rfl, rfl⟩ rfl rfl (Nat.le_of_ble_eq_true rfl) dX6_isTime_6 ?_
  subst hf
  exact r_zret hC (bz_X6_in (Int32.toInt64 v0) 0 2000000000) dX6_isTime_9 hk
set_option maxHeartbeats 4000000 in
set_option maxRecDepth 100000 in
theorem c_X6_isTime {l : Launch} {G : zG} {u : zS} {v0 : Int32} : zM l dscM yX6_isTime cX6_isTime 1 (some .boolean) rm_X6_isTime G [.int v0] u (some (.int (f_X6_isTime v0))) u := zM.of (by decide) (Nat.le_of_ble_eq_true rfl) (fun X hC => t_X6_isTime hC _ rfl ⟨rfl, rfl⟩)
set_option maxHeartbeats 4000000 in
set_option maxRecDepth 100000 in
theorem bz_X6_isTime (v0 : Int32) : narrow .boolean (.int (f_X6_isTime v0)) = .int (f_X6_isTime v0) := by unfold f_X6_isTime; exact (bz_X6_in (Int32.toInt64 v0) 0 2000000000)
set_option maxHeartbeats 4000000 in
set_option maxRecDepth 100000 in
theorem t_X6_ahead {l : Launch} {G : zG} {X : zX} {K : Option Value → zS → Prop} (hC : zC G X cX6_ahead 3 RX6 (some .int)) {N : Nat} {u : zS} {v1 : Int32} {v2 : Int32} (o : Int32) (hf : f_X6_ahead N u v1 v2 = some o) (hk : K (some (.int o)) u) : zW dscM l rm_X6_ahead G X K u 0 [(0, .ref (G.1 0)), (1, .int v1), (2, .int v2)] [] := by
  unfold f_X6_ahead at hf
  refine r_aload_n hC dX6_ahead_0 0 rfl ?_
  refine r_iload_n hC dX6_ahead_1 1 rfl ?_
  refine r_cvi (As := [.int v1]) (rest := []) hC c_X6_isAngel yv_X6_isAngel ml_RX6_100 dM_0 ⟨by decide, by decide, rfl, rfl⟩ rfl rfl (Nat.le_of_ble_eq_true rfl) dX6_ahead_2 ?_
  refine r_if_eq (tgt := 31) hC dX6_ahead_5 (by decide) (fun c1 => ?_) (fun c1 => ?_)
  · have hf := ite_t c1 hf
    refine r_iconst (v := (-1)) hC dX6_ahead_31 (by decide) ?_
    have hf := Option.some.inj hf
    subst hf
    exact r_iret hC dX6_ahead_32 hk
  · have hf := ite_f c1 hf
    refine r_iload_n hC dX6_ahead_8 2 rfl ?_
    refine r_csi (As := [.int v2]) (rest := []) hC c_X6_isTime ys_X6_isTime ml_RX6_176 ⟨by decide, by decide, rfl, rfl⟩ rfl rfl (Nat.le_of_ble_eq_true rfl) dX6_ahead_9 ?_
    refine r_if_eq (tgt := 31) hC dX6_ahead_12 (by decide) (fun c2 => ?_) (fun c2 => ?_)
    · have hf := ite_t c2 hf
      refine r_iconst (v := (-1)) hC dX6_ahead_31 (by decide) ?_
      have hf := Option.some.inj hf
      subst hf
      exact r_iret hC dX6_ahead_32 hk
    · have hf := ite_f c2 hf
      refine r_aload_n hC dX6_ahead_15 0 rfl ?_
      refine r_aload_n hC dX6_ahead_16 0 rfl ?_
      refine r_getr hC fd_RX6_7 dM_0 rfl dX6_ahead_17 ?_
      refine r_iconst (v := 5) hC dX6_ahead_20 (by decide) ?_
      refine r_iload_n hC dX6_ahead_21 1 rfl ?_
      refine r_iadd hC dX6_ahead_22 ?_
      obtain ⟨g3, hf⟩ := og_in hf
      refine r_iald hC dM_1 g3 dX6_ahead_23 ?_
      refine r_iload_n hC dX6_ahead_24 2 rfl ?_
      obtain ⟨r4, er4, hf⟩ := ob_some hf
      refine r_cvi (As := [.int (u.1 1 (Int32.toNatClampNeg (5 + v1))), .int v2]) (rest := []) hC (c_X6_behind er4) yv_X6_behind ml_RX6_179 dM_0 ⟨by decide, by decide, rfl, rfl⟩ rfl rfl (Nat.le_of_ble_eq_true rfl) dX6_ahead_25 ?_
      refine r_goto (tgt := 32) hC dX6_ahead_28 (by decide) ?_
      have hf := Option.some.inj hf
      subst hf
      exact r_iret hC dX6_ahead_32 hk
set_option maxHeartbeats 4000000 in
set_option maxRecDepth 100000 in
theorem c_X6_ahead {l : Launch} {G : zG} {N : Nat} {u : zS} {v1 : Int32} {v2 : Int32} {r : Int32} (hf : f_X6_ahead N u v1 v2 = some r) : zM l dscM yX6_ahead cX6_ahead 3 (some .int) rm_X6_ahead G [.ref (G.1 0), .int v1, .int v2] u (some (.int r)) u := zM.of (by decide) (Nat.le_of_ble_eq_true rfl) (fun X hC => t_X6_ahead hC r hf ⟨rfl, rfl⟩)
set_option maxHeartbeats 4000000 in
set_option maxRecDepth 100000 in
theorem t_X6_then_J76 {l : Launch} {G : zG} {X : zX} {K : Option Value → zS → Prop} (hC : zC G X cX6_then 8 RX6 (some .int)) {N : Nat} {u : zS} {v1 : Int32} {v2 : Int32} {v3 : Int32} {rec : Int32 → Int32 → Int32 → Option (Int32 × Int32)} (hrec : ∀ (v4 : Int32) (v5 : Int32) (v6 : Int32) (o : Int32 × Int32), rec v4 v5 v6 = some o → zW dscM l rm_X6_then G X K u 104 [(1, .int v1), (3, .int v3), (4, .int o.1), (5, .int o.2)] [] → zW dscM l rm_X6_then G X K u 36 [(0, .ref (G.1 0)), (1, .int v1), (2, .int v2), (3, .int v3), (4, .int v4), (5, .int v5), (6, .int v6)] []) : ∀ (v5 : Int32) (v6 : Int32) (v7 : Int32) (s0 : Int32) (o : Int32 × Int32), f_X6_then_J76 N u v1 v2 v3 rec v5 v6 v7 s0 = some o → zW dscM l rm_X6_then G X K u 104 [(1, .int v1), (3, .int v3), (4, .int o.1), (5, .int o.2)] [] → zW dscM l rm_X6_then G X K u 76 [(0, .ref (G.1 0)), (1, .int v1), (2, .int v2), (3, .int v3), (5, .int v5), (6, .int v6), (7, .int v7)] [.int s0] := by
  intro v5 v6 v7 s0 o hf hk
  unfold f_X6_then_J76 at hf
  refine r_istore (lv' := [(4, .int s0), (0, .ref (G.1 0)), (1, .int v1), (2, .int v2), (3, .int v3), (5, .int v5), (6, .int v6), (7, .int v7)]) hC dX6_then_76 (by decide) rfl ?_
  refine r_iload hC dX6_then_78 5 rfl ?_
  refine r_iload hC dX6_then_80 7 rfl ?_
  refine r_bipush (v := (-4)) hC dX6_then_82 (by decide) ?_
  refine r_icmp_ne (tgt := 91) hC dX6_then_84 (by decide) (fun c8 => ?_) (fun c8 => ?_)
  · have hf := ite_f c8 hf
    refine r_iconst (v := 1) hC dX6_then_91 (by decide) ?_
    refine r_iload hC dX6_then_92 7 rfl ?_
    refine r_ishl (x := 1) (y := v7) hC dX6_then_94 ?_
    refine r_ior hC dX6_then_95 ?_
    refine r_topi (fun w9 ew9 => ?_)
    have hf := olet_at ew9 hf
    refine r_istore (lv' := [(5, .int w9), (4, .int s0), (0, .ref (G.1 0)), (1, .int v1), (2, .int v2), (3, .int v3), (6, .int v6), (7, .int v7)]) hC dX6_then_96 (by decide) rfl ?_
    refine r_iinc (v := 1) (lv' := [(6, .int (v6 + 1)), (5, .int w9), (4, .int s0), (0, .ref (G.1 0)), (1, .int v1), (2, .int v2), (3, .int v3), (7, .int v7)]) hC dX6_then_98 6 rfl (by decide) (by decide) rfl ?_
    refine r_goto (tgt := 36) hC dX6_then_101 (by decide) ?_
    refine r_loc [3, 4, 5, 6, 2, 1, 0] rfl ?_
    exact hrec s0 w9 (v6 + 1) o hf hk
  · have hf := ite_t c8 hf
    refine r_iconst (v := 0) hC dX6_then_87 (by decide) ?_
    refine r_goto (tgt := 95) hC dX6_then_88 (by decide) ?_
    refine r_ior hC dX6_then_95 ?_
    refine r_istore (lv' := [(5, .int (v5 ||| 0)), (4, .int s0), (0, .ref (G.1 0)), (1, .int v1), (2, .int v2), (3, .int v3), (6, .int v6), (7, .int v7)]) hC dX6_then_96 (by decide) rfl ?_
    refine r_iinc (v := 1) (lv' := [(6, .int (v6 + 1)), (5, .int (v5 ||| 0)), (4, .int s0), (0, .ref (G.1 0)), (1, .int v1), (2, .int v2), (3, .int v3), (7, .int v7)]) hC dX6_then_98 6 rfl (by decide) (by decide) rfl ?_
    refine r_goto (tgt := 36) hC dX6_then_101 (by decide) ?_
    refine r_loc [3, 4, 5, 6, 2, 1, 0] rfl ?_
    exact hrec s0 (v5 ||| 0) (v6 + 1) o hf hk
set_option maxHeartbeats 4000000 in
set_option maxRecDepth 100000 in
theorem t_X6_then_L36_B {l : Launch} {G : zG} {X : zX} {K : Option Value → zS → Prop} (hC : zC G X cX6_then 8 RX6 (some .int)) {N : Nat} {u : zS} {v1 : Int32} {v2 : Int32} {v3 : Int32} {rec : Int32 → Int32 → Int32 → Option (Int32 × Int32)} (hrec : ∀ (v4 : Int32) (v5 : Int32) (v6 : Int32) (o : Int32 × Int32), rec v4 v5 v6 = some o → zW dscM l rm_X6_then G X K u 104 [(1, .int v1), (3, .int v3), (4, .int o.1), (5, .int o.2)] [] → zW dscM l rm_X6_then G X K u 36 [(0, .ref (G.1 0)), (1, .int v1), (2, .int v2), (3, .int v3), (4, .int v4), (5, .int v5), (6, .int v6)] []) : ∀ (v4 : Int32) (v5 : Int32) (v6 : Int32) (o : Int32 × Int32), f_X6_then_L36_B N u v1 v2 v3 rec v4 v5 v6 = some o → zW dscM l rm_X6_then G X K u 104 [(1, .int v1), (3, .int v3), (4, .int o.1), (5, .int o.2)] [] → zW dscM l rm_X6_then G X K u 36 [(0, .ref (G.1 0)), (1, .int v1), (2, .int v2), (3, .int v3), (4, .int v4), (5, .int v5), (6, .int v6)] [] := by
  intro v4 v5 v6 o hf hk
  unfold f_X6_then_L36_B at hf
  refine r_iload hC dX6_then_36 6 rfl ?_
  refine r_aload_n hC dX6_then_38 0 rfl ?_
  refine r_getr hC fd_RX6_7 dM_0 rfl dX6_then_39 ?_
  refine r_iconst (v := 0) hC dX6_then_42 (by decide) ?_
  refine r_ialdK (j := 0) hC dM_1 (inK (by decide)) dX6_then_43 ?_
  refine r_icmp_ge (tgt := 104) hC dX6_then_44 (by decide) (fun c4 => ?_) (fun c4 => ?_)
  · have hf := ite_t c4 hf
    have hf := Option.some.inj hf
    subst hf
    refine r_loc [1, 3, 4, 5] rfl ?_
    exact hk
  · have hf := ite_f c4 hf
    refine r_aload_n hC dX6_then_47 0 rfl ?_
    refine r_aload_n hC dX6_then_48 0 rfl ?_
    refine r_getr hC fd_RX6_7 dM_0 rfl dX6_then_49 ?_
    refine r_iconst (v := 5) hC dX6_then_52 (by decide) ?_
    refine r_iload hC dX6_then_53 6 rfl ?_
    refine r_iadd hC dX6_then_55 ?_
    obtain ⟨g5, hf⟩ := og_in hf
    refine r_iald hC dM_1 g5 dX6_then_56 ?_
    refine r_iload_n hC dX6_then_57 2 rfl ?_
    obtain ⟨r6, er6, hf⟩ := ob_some hf
    refine r_cvi (As := [.int (u.1 1 (Int32.toNatClampNeg (5 + v6))), .int v2]) (rest := []) hC (c_X6_behind er6) yv_X6_behind ml_RX6_179 dM_0 ⟨by decide, by decide, rfl, rfl⟩ rfl rfl (Nat.le_of_ble_eq_true rfl) dX6_then_58 ?_
    refine r_istore (lv' := [(7, .int r6), (0, .ref (G.1 0)), (1, .int v1), (2, .int v2), (3, .int v3), (4, .int v4), (5, .int v5), (6, .int v6)]) hC dX6_then_61 (by decide) rfl ?_
    refine r_iload hC dX6_then_63 0 rfl ?_
    refine r_iload_n hC dX6_then_65 2 rfl ?_
    refine r_icmp_ne (tgt := 74) hC dX6_then_66 (by decide) (fun c7 => ?_) (fun c7 => ?_)
    · have hf := ite_f c7 hf
      refine r_iload hC dX6_then_74 5 rfl ?_
      refine r_loc [1, 2, 3, 4, 6, 7, 0] rfl ?_
      exact t_X6_then_J76 hC hrec  v5 v6 r6 v4 o hf hk
    · have hf := ite_t c7 hf
      refine r_iload hC dX6_then_69 7 rfl ?_
      refine r_goto (tgt := 76) hC dX6_then_71 (by decide) ?_
      refine r_loc [1, 2, 3, 4, 6, 7, 0] rfl ?_
      exact t_X6_then_J76 hC hrec  v5 v6 r6 v6 o hf hk
set_option maxHeartbeats 4000000 in
set_option maxRecDepth 100000 in
theorem t_X6_then_L36 {l : Launch} {G : zG} {X : zX} {K : Option Value → zS → Prop} (hC : zC G X cX6_then 8 RX6 (some .int)) {N : Nat} {u : zS} {v1 : Int32} {v2 : Int32} {v3 : Int32} : ∀ (n : Nat) (v4 : Int32) (v5 : Int32) (v6 : Int32) (o : Int32 × Int32), f_X6_then_L36 N u v1 v2 v3 n v4 v5 v6 = some o → zW dscM l rm_X6_then G X K u 104 [(1, .int v1), (3, .int v3), (4, .int o.1), (5, .int o.2)] [] → zW dscM l rm_X6_then G X K u 36 [(0, .ref (G.1 0)), (1, .int v1), (2, .int v2), (3, .int v3), (4, .int v4), (5, .int v5), (6, .int v6)] [] := by
  intro n
  induction n with
  | zero => intro v4 v5 v6 o hf; cases hf
  | succ n ih => intro v4 v5 v6 o hf hk; exact t_X6_then_L36_B hC (rec := f_X6_then_L36 N u v1 v2 v3 n) ih v4 v5 v6 o hf hk
set_option maxHeartbeats 4000000 in
set_option maxRecDepth 100000 in
theorem t_X6_then {l : Launch} {G : zG} {X : zX} {K : Option Value → zS → Prop} (hC : zC G X cX6_then 8 RX6 (some .int)) {N : Nat} {u : zS} {v1 : Int32} {v2 : Int32} {v3 : Int32} (o : Int32) (hf : f_X6_then N u v1 v2 v3 = some o) (hk : K (some (.int o)) u) : zW dscM l rm_X6_then G X K u 0 [(0, .ref (G.1 0)), (1, .int v1), (2, .int v2), (3, .int v3)] [] := by
  unfold f_X6_then at hf
  refine r_iload_n hC dX6_then_0 1 rfl ?_
  refine r_csi (As := [.int v1]) (rest := []) hC c_X6_isPlace ys_X6_isPlace ml_RX6_74 ⟨by decide, by decide, rfl, rfl⟩ rfl rfl (Nat.le_of_ble_eq_true rfl) dX6_then_1 ?_
  refine r_if_eq (tgt := 24) hC dX6_then_4 (by decide) (fun c1 => ?_) (fun c1 => ?_)
  · have hf := ite_t c1 hf
    refine r_iconst (v := (-1)) hC dX6_then_24 (by decide) ?_
    have hf := Option.some.inj hf
    subst hf
    exact r_iret hC dX6_then_25 hk
  · have hf := ite_f c1 hf
    refine r_iload_n hC dX6_then_7 2 rfl ?_
    refine r_csi (As := [.int v2]) (rest := []) hC c_X6_isTime ys_X6_isTime ml_RX6_176 ⟨by decide, by decide, rfl, rfl⟩ rfl rfl (Nat.le_of_ble_eq_true rfl) dX6_then_8 ?_
    refine r_if_eq (tgt := 24) hC dX6_then_11 (by decide) (fun c2 => ?_) (fun c2 => ?_)
    · have hf := ite_t c2 hf
      refine r_iconst (v := (-1)) hC dX6_then_24 (by decide) ?_
      have hf := Option.some.inj hf
      subst hf
      exact r_iret hC dX6_then_25 hk
    · have hf := ite_f c2 hf
      refine r_iload_n hC dX6_then_14 3 rfl ?_
      refine r_i2l hC dX6_then_15 ?_
      refine r_lconst (v := 0) hC dX6_then_16 (by decide) ?_
      refine r_lconst (v := 1) hC dX6_then_17 (by decide) ?_
      refine r_csi (As := [.long (Int32.toInt64 v3), .long 0, .long 1]) (rest := []) hC c_X6_in ys_X6_in ml_RX6_52 ⟨by decide, by decide, rfl, rfl⟩ rfl rfl (Nat.le_of_ble_eq_true rfl) dX6_then_18 ?_
      refine r_if_ne (tgt := 26) hC dX6_then_21 (by decide) (fun c3 => ?_) (fun c3 => ?_)
      · have hf := ite_f c3 hf
        refine r_bipush (v := (-4)) hC dX6_then_26 (by decide) ?_
        refine r_istore (lv' := [(4, .int (-4)), (0, .ref (G.1 0)), (1, .int v1), (2, .int v2), (3, .int v3)]) hC dX6_then_28 (by decide) rfl ?_
        refine r_iconst (v := 0) hC dX6_then_30 (by decide) ?_
        refine r_istore (lv' := [(5, .int 0), (4, .int (-4)), (0, .ref (G.1 0)), (1, .int v1), (2, .int v2), (3, .int v3)]) hC dX6_then_31 (by decide) rfl ?_
        refine r_iconst (v := 0) hC dX6_then_33 (by decide) ?_
        refine r_istore (lv' := [(6, .int 0), (5, .int 0), (4, .int (-4)), (0, .ref (G.1 0)), (1, .int v1), (2, .int v2), (3, .int v3)]) hC dX6_then_34 (by decide) rfl ?_
        refine r_loc [3, 4, 5, 6, 2, 1, 0] rfl ?_
        obtain ⟨q10, eq10, hf⟩ := ob_some hf
        refine t_X6_then_L36 hC N (-4) 0 0 q10 eq10 ?_
        refine r_iload_n hC dX6_then_104 1 rfl ?_
        refine r_if_ne (tgt := 113) hC dX6_then_105 (by decide) (fun c11 => ?_) (fun c11 => ?_)
        · have hf := ite_f c11 hf
          refine r_iload hC dX6_then_113 3 rfl ?_
          refine r_iload_n hC dX6_then_115 0 rfl ?_
          obtain ⟨r12, er12, hf⟩ := ob_some hf
          refine r_csi (As := [.int q10.2, .int v1]) (rest := []) hC (c_X6_seenOf er12) ys_X6_seenOf ml_RX6_103 ⟨by decide, by decide, rfl, rfl⟩ rfl rfl (Nat.le_of_ble_eq_true rfl) dX6_then_116 ?_
          have hf := Option.some.inj hf
          subst hf
          exact r_iret hC dX6_then_119 hk
        · have hf := ite_t c11 hf
          refine r_iload hC dX6_then_108 2 rfl ?_
          refine r_goto (tgt := 119) hC dX6_then_110 (by decide) ?_
          have hf := Option.some.inj hf
          subst hf
          exact r_iret hC dX6_then_119 hk
      · have hf := ite_t c3 hf
        refine r_iconst (v := (-1)) hC dX6_then_24 (by decide) ?_
        have hf := Option.some.inj hf
        subst hf
        exact r_iret hC dX6_then_25 hk
set_option maxHeartbeats 4000000 in
set_option maxRecDepth 100000 in
theorem c_X6_then {l : Launch} {G : zG} {N : Nat} {u : zS} {v1 : Int32} {v2 : Int32} {v3 : Int32} {r : Int32} (hf : f_X6_then N u v1 v2 v3 = some r) : zM l dscM yX6_then cX6_then 8 (some .int) rm_X6_then G [.ref (G.1 0), .int v1, .int v2, .int v3] u (some (.int r)) u := zM.of (by decide) (Nat.le_of_ble_eq_true rfl) (fun X hC => t_X6_then hC r hf ⟨rfl, rfl⟩)
set_option maxHeartbeats 4000000 in
set_option maxRecDepth 100000 in
theorem t_X6_back_J83 {l : Launch} {G : zG} {X : zX} {K : Option Value → zS → Prop} (hC : zC G X cX6_back 6 RX6 (some .int)) {N : Nat} {u : zS} {v1 : Int32} {v2 : Int32} {rec : Int32 → Int32 → Option (Int32)} (hrec : ∀ (v3 : Int32) (v4 : Int32) (o : Int32), rec v3 v4 = some o → zW dscM l rm_X6_back G X K u 124 [(0, .ref (G.1 0)), (1, .int v1), (2, .int v2), (3, .int o)] [] → zW dscM l rm_X6_back G X K u 42 [(0, .ref (G.1 0)), (1, .int v1), (2, .int v2), (3, .int v3), (4, .int v4)] []) : ∀ (v3 : Int32) (v4 : Int32) (s0 : Int32) (o : Int32), f_X6_back_J83 N u v1 v2 rec v3 v4 s0 = some o → zW dscM l rm_X6_back G X K u 124 [(0, .ref (G.1 0)), (1, .int v1), (2, .int v2), (3, .int o)] [] → zW dscM l rm_X6_back G X K u 83 [(0, .ref (G.1 0)), (1, .int v1), (2, .int v2), (3, .int v3), (4, .int v4)] [.int s0] := by
  intro v3 v4 s0 o hf hk
  unfold f_X6_back_J83 at hf
  refine r_istore (lv' := [(5, .int s0), (0, .ref (G.1 0)), (1, .int v1), (2, .int v2), (3, .int v3), (4, .int v4)]) hC dX6_back_83 (by decide) rfl ?_
  refine r_iload_n hC dX6_back_85 4 rfl ?_
  refine r_if_eq (tgt := 116) hC dX6_back_86 (by decide) (fun c7 => ?_) (fun c7 => ?_)
  · have hf := ite_t c7 hf
    refine r_iconst (v := 0) hC dX6_back_116 (by decide) ?_
    refine r_istore_n (lv' := [(3, .int 0), (5, .int s0), (0, .ref (G.1 0)), (1, .int v1), (2, .int v2), (4, .int v4)]) hC dX6_back_117 rfl (by decide) rfl ?_
    refine r_iinc (v := 1) (lv' := [(4, .int (v4 + 1)), (3, .int 0), (5, .int s0), (0, .ref (G.1 0)), (1, .int v1), (2, .int v2)]) hC dX6_back_118 5 rfl (by decide) (by decide) rfl ?_
    refine r_goto (tgt := 42) hC dX6_back_121 (by decide) ?_
    refine r_loc [3, 4, 5, 1, 0] rfl ?_
    exact hrec 0 (v4 + 1) o hf hk
  · have hf := ite_f c7 hf
    refine r_iload hC dX6_back_89 0 rfl ?_
    refine r_if_eq (tgt := 112) hC dX6_back_91 (by decide) (fun c8 => ?_) (fun c8 => ?_)
    · have hf := ite_t c8 hf
      refine r_iconst (v := 1) hC dX6_back_112 (by decide) ?_
      refine r_goto (tgt := 117) hC dX6_back_113 (by decide) ?_
      refine r_istore_n (lv' := [(3, .int 1), (5, .int s0), (0, .ref (G.1 0)), (1, .int v1), (2, .int v2), (4, .int v4)]) hC dX6_back_117 rfl (by decide) rfl ?_
      refine r_iinc (v := 1) (lv' := [(4, .int (v4 + 1)), (3, .int 1), (5, .int s0), (0, .ref (G.1 0)), (1, .int v1), (2, .int v2)]) hC dX6_back_118 5 rfl (by decide) (by decide) rfl ?_
      refine r_goto (tgt := 42) hC dX6_back_121 (by decide) ?_
      refine r_loc [3, 4, 5, 1, 0] rfl ?_
      exact hrec 1 (v4 + 1) o hf hk
    · have hf := ite_f c8 hf
      refine r_iload_n hC dX6_back_94 3 rfl ?_
      refine r_aload_n hC dX6_back_95 1 rfl ?_
      refine r_aload_n hC dX6_back_96 1 rfl ?_
      refine r_getr hC fd_RX6_7 dM_0 rfl dX6_back_97 ?_
      refine r_iconst (v := 5) hC dX6_back_100 (by decide) ?_
      refine r_iload hC dX6_back_101 5 rfl ?_
      refine r_iadd hC dX6_back_103 ?_
      obtain ⟨g9, hf⟩ := og_in hf
      refine r_iald hC dM_1 g9 dX6_back_104 ?_
      obtain ⟨r10, er10, hf⟩ := ob_some hf
      refine r_cvi (As := [.int (u.1 1 (Int32.toNatClampNeg (5 + v4)))]) (rest := [.int v2]) hC (c_X6_ringOf er10) yv_X6_ringOf ml_RX6_171 dM_0 ⟨by decide, by decide, rfl, rfl⟩ rfl rfl (Nat.le_of_ble_eq_true rfl) dX6_back_105 ?_
      obtain ⟨g11, hf⟩ := og_ne hf
      refine r_irem (x := v2) (y := r10) hC dX6_back_108 g11 ?_
      refine r_if_ne (tgt := 116) hC dX6_back_109 (by decide) (fun c12 => ?_) (fun c12 => ?_)
      · have hf := ite_f c12 hf
        refine r_iconst (v := 0) hC dX6_back_116 (by decide) ?_
        refine r_istore_n (lv' := [(3, .int 0), (5, .int s0), (0, .ref (G.1 0)), (1, .int v1), (2, .int v2), (4, .int v4)]) hC dX6_back_117 rfl (by decide) rfl ?_
        refine r_iinc (v := 1) (lv' := [(4, .int (v4 + 1)), (3, .int 0), (5, .int s0), (0, .ref (G.1 0)), (1, .int v1), (2, .int v2)]) hC dX6_back_118 5 rfl (by decide) (by decide) rfl ?_
        refine r_goto (tgt := 42) hC dX6_back_121 (by decide) ?_
        refine r_loc [3, 4, 5, 1, 0] rfl ?_
        exact hrec 0 (v4 + 1) o hf hk
      · have hf := ite_t c12 hf
        refine r_iconst (v := 1) hC dX6_back_112 (by decide) ?_
        refine r_goto (tgt := 117) hC dX6_back_113 (by decide) ?_
        refine r_istore_n (lv' := [(3, .int 1), (5, .int s0), (0, .ref (G.1 0)), (1, .int v1), (2, .int v2), (4, .int v4)]) hC dX6_back_117 rfl (by decide) rfl ?_
        refine r_iinc (v := 1) (lv' := [(4, .int (v4 + 1)), (3, .int 1), (5, .int s0), (0, .ref (G.1 0)), (1, .int v1), (2, .int v2)]) hC dX6_back_118 5 rfl (by decide) (by decide) rfl ?_
        refine r_goto (tgt := 42) hC dX6_back_121 (by decide) ?_
        refine r_loc [3, 4, 5, 1, 0] rfl ?_
        exact hrec 1 (v4 + 1) o hf hk
set_option maxHeartbeats 4000000 in
set_option maxRecDepth 100000 in
theorem t_X6_back_J82 {l : Launch} {G : zG} {X : zX} {K : Option Value → zS → Prop} (hC : zC G X cX6_back 6 RX6 (some .int)) {N : Nat} {u : zS} {v1 : Int32} {v2 : Int32} {rec : Int32 → Int32 → Option (Int32)} (hrec : ∀ (v3 : Int32) (v4 : Int32) (o : Int32), rec v3 v4 = some o → zW dscM l rm_X6_back G X K u 124 [(0, .ref (G.1 0)), (1, .int v1), (2, .int v2), (3, .int o)] [] → zW dscM l rm_X6_back G X K u 42 [(0, .ref (G.1 0)), (1, .int v1), (2, .int v2), (3, .int v3), (4, .int v4)] []) : ∀ (v3 : Int32) (v4 : Int32) (o : Int32), f_X6_back_J82 N u v1 v2 rec v3 v4 = some o → zW dscM l rm_X6_back G X K u 124 [(0, .ref (G.1 0)), (1, .int v1), (2, .int v2), (3, .int o)] [] → zW dscM l rm_X6_back G X K u 82 [(0, .ref (G.1 0)), (1, .int v1), (2, .int v2), (3, .int v3), (4, .int v4)] [] := by
  intro v3 v4 o hf hk
  unfold f_X6_back_J82 at hf
  refine r_iconst (v := 0) hC dX6_back_82 (by decide) ?_
  exact t_X6_back_J83 hC hrec  v3 v4 0 o hf hk
set_option maxHeartbeats 4000000 in
set_option maxRecDepth 100000 in
theorem t_X6_back_J78 {l : Launch} {G : zG} {X : zX} {K : Option Value → zS → Prop} (hC : zC G X cX6_back 6 RX6 (some .int)) {N : Nat} {u : zS} {v1 : Int32} {v2 : Int32} {rec : Int32 → Int32 → Option (Int32)} (hrec : ∀ (v3 : Int32) (v4 : Int32) (o : Int32), rec v3 v4 = some o → zW dscM l rm_X6_back G X K u 124 [(0, .ref (G.1 0)), (1, .int v1), (2, .int v2), (3, .int o)] [] → zW dscM l rm_X6_back G X K u 42 [(0, .ref (G.1 0)), (1, .int v1), (2, .int v2), (3, .int v3), (4, .int v4)] []) : ∀ (v3 : Int32) (v4 : Int32) (o : Int32), f_X6_back_J78 N u v1 v2 rec v3 v4 = some o → zW dscM l rm_X6_back G X K u 124 [(0, .ref (G.1 0)), (1, .int v1), (2, .int v2), (3, .int o)] [] → zW dscM l rm_X6_back G X K u 78 [(0, .ref (G.1 0)), (1, .int v1), (2, .int v2), (3, .int v3), (4, .int v4)] [] := by
  intro v3 v4 o hf hk
  unfold f_X6_back_J78 at hf
  refine r_iconst (v := 1) hC dX6_back_78 (by decide) ?_
  refine r_goto (tgt := 83) hC dX6_back_79 (by decide) ?_
  exact t_X6_back_J83 hC hrec  v3 v4 1 o hf hk
set_option maxHeartbeats 4000000 in
set_option maxRecDepth 100000 in
theorem t_X6_back_L42_B {l : Launch} {G : zG} {X : zX} {K : Option Value → zS → Prop} (hC : zC G X cX6_back 6 RX6 (some .int)) {N : Nat} {u : zS} {v1 : Int32} {v2 : Int32} {rec : Int32 → Int32 → Option (Int32)} (hrec : ∀ (v3 : Int32) (v4 : Int32) (o : Int32), rec v3 v4 = some o → zW dscM l rm_X6_back G X K u 124 [(0, .ref (G.1 0)), (1, .int v1), (2, .int v2), (3, .int o)] [] → zW dscM l rm_X6_back G X K u 42 [(0, .ref (G.1 0)), (1, .int v1), (2, .int v2), (3, .int v3), (4, .int v4)] []) : ∀ (v3 : Int32) (v4 : Int32) (o : Int32), f_X6_back_L42_B N u v1 v2 rec v3 v4 = some o → zW dscM l rm_X6_back G X K u 124 [(0, .ref (G.1 0)), (1, .int v1), (2, .int v2), (3, .int o)] [] → zW dscM l rm_X6_back G X K u 42 [(0, .ref (G.1 0)), (1, .int v1), (2, .int v2), (3, .int v3), (4, .int v4)] [] := by
  intro v3 v4 o hf hk
  unfold f_X6_back_L42_B at hf
  refine r_iload hC dX6_back_42 4 rfl ?_
  refine r_aload_n hC dX6_back_44 0 rfl ?_
  refine r_getr hC fd_RX6_7 dM_0 rfl dX6_back_45 ?_
  refine r_iconst (v := 0) hC dX6_back_48 (by decide) ?_
  refine r_ialdK (j := 0) hC dM_1 (inK (by decide)) dX6_back_49 ?_
  refine r_icmp_ge (tgt := 124) hC dX6_back_50 (by decide) (fun c4 => ?_) (fun c4 => ?_)
  · have hf := ite_t c4 hf
    have hf := Option.some.inj hf
    subst hf
    refine r_loc [0, 1, 2, 3] rfl ?_
    exact hk
  · have hf := ite_f c4 hf
    refine r_aload_n hC dX6_back_53 0 rfl ?_
    refine r_getr hC fd_RX6_7 dM_0 rfl dX6_back_54 ?_
    refine r_iconst (v := 5) hC dX6_back_57 (by decide) ?_
    refine r_iload hC dX6_back_58 4 rfl ?_
    refine r_iadd hC dX6_back_60 ?_
    obtain ⟨g5, hf⟩ := og_in hf
    refine r_iald hC dM_1 g5 dX6_back_61 ?_
    refine r_bipush (v := (-4)) hC dX6_back_62 (by decide) ?_
    refine r_icmp_eq (tgt := 82) hC dX6_back_64 (by decide) (fun c6 => ?_) (fun c6 => ?_)
    · have hf := ite_t c6 hf
      exact t_X6_back_J82 hC hrec  v3 v4 o hf hk
    · have hf := ite_f c6 hf
      refine r_iload_n hC dX6_back_67 1 rfl ?_
      refine r_iconst (v := (-1)) hC dX6_back_68 (by decide) ?_
      refine r_icmp_eq (tgt := 78) hC dX6_back_69 (by decide) (fun c13 => ?_) (fun c13 => ?_)
      · have hf := ite_t c13 hf
        exact t_X6_back_J78 hC hrec  v3 v4 o hf hk
      · have hf := ite_f c13 hf
        refine r_iload hC dX6_back_72 4 rfl ?_
        refine r_iload_n hC dX6_back_74 1 rfl ?_
        refine r_icmp_ne (tgt := 82) hC dX6_back_75 (by decide) (fun c14 => ?_) (fun c14 => ?_)
        · have hf := ite_f c14 hf
          exact t_X6_back_J82 hC hrec  v3 v4 o hf hk
        · have hf := ite_t c14 hf
          exact t_X6_back_J78 hC hrec  v3 v4 o hf hk
set_option maxHeartbeats 4000000 in
set_option maxRecDepth 100000 in
theorem t_X6_back_L42 {l : Launch} {G : zG} {X : zX} {K : Option Value → zS → Prop} (hC : zC G X cX6_back 6 RX6 (some .int)) {N : Nat} {u : zS} {v1 : Int32} {v2 : Int32} : ∀ (n : Nat) (v3 : Int32) (v4 : Int32) (o : Int32), f_X6_back_L42 N u v1 v2 n v3 v4 = some o → zW dscM l rm_X6_back G X K u 124 [(0, .ref (G.1 0)), (1, .int v1), (2, .int v2), (3, .int o)] [] → zW dscM l rm_X6_back G X K u 42 [(0, .ref (G.1 0)), (1, .int v1), (2, .int v2), (3, .int v3), (4, .int v4)] [] := by
  intro n
  induction n with
  | zero => intro v3 v4 o hf; cases hf
  | succ n ih => intro v3 v4 o hf hk; exact t_X6_back_L42_B hC (rec := f_X6_back_L42 N u v1 v2 n) ih v3 v4 o hf hk
set_option maxHeartbeats 4000000 in
set_option maxRecDepth 100000 in
theorem t_X6_back_L30_B {l : Launch} {G : zG} {X : zX} {K : Option Value → zS → Prop} (hC : zC G X cX6_back 6 RX6 (some .int)) {N : Nat} {u : zS} {v1 : Int32} {rec : Int32 → Int32 → Option (Int32)} (hrec : ∀ (v2 : Int32) (v3 : Int32) (o : Int32), rec v2 v3 = some o → zW dscM l rm_X6_back G X K u 127 [(0, .ref (G.1 0)), (2, .int o)] [] → zW dscM l rm_X6_back G X K u 30 [(0, .ref (G.1 0)), (1, .int v1), (2, .int v2), (3, .int v3)] []) : ∀ (v2 : Int32) (v3 : Int32) (o : Int32), f_X6_back_L30_B N u v1 rec v2 v3 = some o → zW dscM l rm_X6_back G X K u 127 [(0, .ref (G.1 0)), (2, .int o)] [] → zW dscM l rm_X6_back G X K u 30 [(0, .ref (G.1 0)), (1, .int v1), (2, .int v2), (3, .int v3)] [] := by
  intro v2 v3 o hf hk
  unfold f_X6_back_L30_B at hf
  refine r_iload_n hC dX6_back_30 3 rfl ?_
  refine r_if_ne (tgt := 127) hC dX6_back_31 (by decide) (fun c3 => ?_) (fun c3 => ?_)
  · have hf := ite_f c3 hf
    have hf := Option.some.inj hf
    subst hf
    refine r_loc [0, 2] rfl ?_
    exact hk
  · have hf := ite_t c3 hf
    refine r_iinc (v := 1) (lv' := [(2, .int (v2 + 1)), (0, .ref (G.1 0)), (1, .int v1), (3, .int v3)]) hC dX6_back_34 2 rfl (by decide) (by decide) rfl ?_
    refine r_iconst (v := 1) hC dX6_back_37 (by decide) ?_
    refine r_istore_n (lv' := [(3, .int 1), (2, .int (v2 + 1)), (0, .ref (G.1 0)), (1, .int v1)]) hC dX6_back_38 rfl (by decide) rfl ?_
    refine r_iconst (v := 0) hC dX6_back_39 (by decide) ?_
    refine r_istore (lv' := [(4, .int 0), (3, .int 1), (2, .int (v2 + 1)), (0, .ref (G.1 0)), (1, .int v1)]) hC dX6_back_40 (by decide) rfl ?_
    refine r_loc [3, 4, 2, 1, 0] rfl ?_
    obtain ⟨q15, eq15, hf⟩ := ob_some hf
    refine t_X6_back_L42 hC N 1 0 q15 eq15 ?_
    refine r_goto (tgt := 30) hC dX6_back_124 (by decide) ?_
    exact hrec (v2 + 1) q15 o hf hk
set_option maxHeartbeats 4000000 in
set_option maxRecDepth 100000 in
theorem t_X6_back_L30 {l : Launch} {G : zG} {X : zX} {K : Option Value → zS → Prop} (hC : zC G X cX6_back 6 RX6 (some .int)) {N : Nat} {u : zS} {v1 : Int32} : ∀ (n : Nat) (v2 : Int32) (v3 : Int32) (o : Int32), f_X6_back_L30 N u v1 n v2 v3 = some o → zW dscM l rm_X6_back G X K u 127 [(0, .ref (G.1 0)), (2, .int o)] [] → zW dscM l rm_X6_back G X K u 30 [(0, .ref (G.1 0)), (1, .int v1), (2, .int v2), (3, .int v3)] [] := by
  intro n
  induction n with
  | zero => intro v2 v3 o hf; cases hf
  | succ n ih => intro v2 v3 o hf hk; exact t_X6_back_L30_B hC (rec := f_X6_back_L30 N u v1 n) ih v2 v3 o hf hk
set_option maxHeartbeats 4000000 in
set_option maxRecDepth 100000 in
theorem t_X6_back_J15 {l : Launch} {G : zG} {X : zX} {K : Option Value → zS → Prop} (hC : zC G X cX6_back 6 RX6 (some .int)) {N : Nat} {u : zS} : ∀ (v1 : Int32) (o : Int32), f_X6_back_J15 N u v1 = some o → K (some (.int o)) u → zW dscM l rm_X6_back G X K u 15 [(0, .ref (G.1 0)), (1, .int v1)] [] := by
  intro v1 o hf hk
  unfold f_X6_back_J15 at hf
  refine r_aload_n hC dX6_back_15 0 rfl ?_
  refine r_getr hC fd_RX6_7 dM_0 rfl dX6_back_16 ?_
  refine r_iconst (v := 2) hC dX6_back_19 (by decide) ?_
  refine r_ialdK (j := 2) hC dM_1 (inK (by decide)) dX6_back_20 ?_
  refine r_if_ne (tgt := 26) hC dX6_back_21 (by decide) (fun c2 => ?_) (fun c2 => ?_)
  · have hf := ite_f c2 hf
    refine r_iconst (v := 0) hC dX6_back_26 (by decide) ?_
    refine r_istore_n (lv' := [(2, .int 0), (0, .ref (G.1 0)), (1, .int v1)]) hC dX6_back_27 rfl (by decide) rfl ?_
    refine r_iconst (v := 0) hC dX6_back_28 (by decide) ?_
    refine r_istore_n (lv' := [(3, .int 0), (2, .int 0), (0, .ref (G.1 0)), (1, .int v1)]) hC dX6_back_29 rfl (by decide) rfl ?_
    refine r_loc [2, 3, 1, 0] rfl ?_
    obtain ⟨q16, eq16, hf⟩ := ob_some hf
    refine t_X6_back_L30 hC N 0 0 q16 eq16 ?_
    refine r_iload_n hC dX6_back_127 1 rfl ?_
    refine r_aload_n hC dX6_back_128 0 rfl ?_
    refine r_getr hC fd_RX6_7 dM_0 rfl dX6_back_129 ?_
    refine r_iconst (v := 2) hC dX6_back_132 (by decide) ?_
    refine r_ialdK (j := 2) hC dM_1 (inK (by decide)) dX6_back_133 ?_
    refine r_imul hC dX6_back_134 ?_
    have hf := Option.some.inj hf
    subst hf
    exact r_iret hC dX6_back_135 hk
  · have hf := ite_t c2 hf
    refine r_iconst (v := 0) hC dX6_back_24 (by decide) ?_
    have hf := Option.some.inj hf
    subst hf
    exact r_iret hC dX6_back_25 hk
set_option maxHeartbeats 4000000 in
set_option maxRecDepth 100000 in
theorem t_X6_back {l : Launch} {G : zG} {X : zX} {K : Option Value → zS → Prop} (hC : zC G X cX6_back 6 RX6 (some .int)) {N : Nat} {u : zS} {v1 : Int32} (o : Int32) (hf : f_X6_back N u v1 = some o) (hk : K (some (.int o)) u) : zW dscM l rm_X6_back G X K u 0 [(0, .ref (G.1 0)), (1, .int v1)] [] := by
  unfold f_X6_back at hf
  refine r_iload_n hC dX6_back_0 1 rfl ?_
  refine r_iconst (v := (-1)) hC dX6_back_1 (by decide) ?_
  refine r_icmp_eq (tgt := 15) hC dX6_back_2 (by decide) (fun c1 => ?_) (fun c1 => ?_)
  · have hf := ite_t c1 hf
    exact t_X6_back_J15 hC  v1 o hf hk
  · have hf := ite_f c1 hf
    refine r_aload_n hC dX6_back_5 0 rfl ?_
    refine r_iload_n hC dX6_back_6 1 rfl ?_
    refine r_cvi (As := [.int v1]) (rest := []) hC c_X6_isAngel yv_X6_isAngel ml_RX6_100 dM_0 ⟨by decide, by decide, rfl, rfl⟩ rfl rfl (Nat.le_of_ble_eq_true rfl) dX6_back_7 ?_
    refine r_if_ne (tgt := 15) hC dX6_back_10 (by decide) (fun c17 => ?_) (fun c17 => ?_)
    · have hf := ite_f c17 hf
      exact t_X6_back_J15 hC  v1 o hf hk
    · have hf := ite_t c17 hf
      refine r_iconst (v := (-1)) hC dX6_back_13 (by decide) ?_
      have hf := Option.some.inj hf
      subst hf
      exact r_iret hC dX6_back_14 hk
set_option maxHeartbeats 4000000 in
set_option maxRecDepth 100000 in
theorem c_X6_back {l : Launch} {G : zG} {N : Nat} {u : zS} {v1 : Int32} {r : Int32} (hf : f_X6_back N u v1 = some r) : zM l dscM yX6_back cX6_back 6 (some .int) rm_X6_back G [.ref (G.1 0), .int v1] u (some (.int r)) u := zM.of (by decide) (Nat.le_of_ble_eq_true rfl) (fun X hC => t_X6_back hC r hf ⟨rfl, rfl⟩)
set_option maxHeartbeats 4000000 in
set_option maxRecDepth 100000 in
theorem t_X6_been_L61_B {l : Launch} {G : zG} {X : zX} {K : Option Value → zS → Prop} (hC : zC G X cX6_been 6 RX6 (some .int)) {N : Nat} {u : zS} {v4 : Int32} {rec : Int32 → Int32 → Int32 → Option (Int32)} (hrec : ∀ (v2 : Int32) (v3 : Int32) (v5 : Int32) (o : Int32), rec v2 v3 v5 = some o → zW dscM l rm_X6_been G X K u 110 [(3, .int o)] [] → zW dscM l rm_X6_been G X K u 61 [(0, .ref (G.1 0)), (2, .int v2), (3, .int v3), (4, .int v4), (5, .int v5)] []) : ∀ (v2 : Int32) (v3 : Int32) (v5 : Int32) (o : Int32), f_X6_been_L61_B N u v4 rec v2 v3 v5 = some o → zW dscM l rm_X6_been G X K u 110 [(3, .int o)] [] → zW dscM l rm_X6_been G X K u 61 [(0, .ref (G.1 0)), (2, .int v2), (3, .int v3), (4, .int v4), (5, .int v5)] [] := by
  intro v2 v3 v5 o hf hk
  unfold f_X6_been_L61_B at hf
  refine r_iload hC dX6_been_61 4 rfl ?_
  refine r_iload hC dX6_been_63 3 rfl ?_
  refine r_icmp_ge (tgt := 110) hC dX6_been_65 (by decide) (fun c8 => ?_) (fun c8 => ?_)
  · have hf := ite_t c8 hf
    have hf := Option.some.inj hf
    subst hf
    refine r_loc [2] rfl ?_
    exact hk
  · have hf := ite_f c8 hf
    refine r_aload_n hC dX6_been_68 0 rfl ?_
    refine r_aload_n hC dX6_been_69 0 rfl ?_
    refine r_getr hC fd_RX6_7 dM_0 rfl dX6_been_70 ?_
    refine r_bipush (v := 23) hC dX6_been_73 (by decide) ?_
    refine r_aload_n hC dX6_been_75 0 rfl ?_
    refine r_getr hC fd_RX6_7 dM_0 rfl dX6_been_76 ?_
    refine r_iconst (v := 3) hC dX6_been_79 (by decide) ?_
    refine r_ialdK (j := 3) hC dM_1 (inK (by decide)) dX6_been_80 ?_
    refine r_iload hC dX6_been_81 4 rfl ?_
    refine r_iadd hC dX6_been_83 ?_
    refine r_aload_n hC dX6_been_84 0 rfl ?_
    refine r_getr hC fd_RX6_7 dM_0 rfl dX6_been_85 ?_
    refine r_iconst (v := 2) hC dX6_been_88 (by decide) ?_
    refine r_ialdK (j := 2) hC dM_1 (inK (by decide)) dX6_been_89 ?_
    obtain ⟨g9, hf⟩ := og_ne hf
    refine r_irem (x := ((u.1 1 3) + v5)) (y := (u.1 1 2)) hC dX6_been_90 g9 ?_
    refine r_iadd hC dX6_been_91 ?_
    obtain ⟨g10, hf⟩ := og_in hf
    refine r_iald hC dM_1 g10 dX6_been_92 ?_
    refine r_iload_n hC dX6_been_93 1 rfl ?_
    obtain ⟨r11, er11, hf⟩ := ob_some hf
    refine r_cvi (As := [.int (u.1 1 (Int32.toNatClampNeg (23 + (((u.1 1 3) + v5) - ((u.1 1 3) + v5) / (u.1 1 2) * (u.1 1 2))))), .int v2]) (rest := []) hC (c_X6_leadsOf er11) yv_X6_leadsOf ml_RX6_67 dM_0 ⟨by decide, by decide, rfl, rfl⟩ rfl rfl (Nat.le_of_ble_eq_true rfl) dX6_been_94 ?_
    refine r_istore_n (lv' := [(2, .int r11), (0, .ref (G.1 0)), (3, .int v3), (4, .int v4), (5, .int v5)]) hC dX6_been_97 rfl (by decide) rfl ?_
    refine r_iload_n hC dX6_been_98 2 rfl ?_
    refine r_iconst (v := 1) hC dX6_been_99 (by decide) ?_
    refine r_iload_n hC dX6_been_100 0 rfl ?_
    refine r_ishl (x := 1) (y := r11) hC dX6_been_101 ?_
    refine r_ior hC dX6_been_102 ?_
    refine r_topi (fun w12 ew12 => ?_)
    have hf := olet_at ew12 hf
    refine r_istore_n (lv' := [(3, .int w12), (2, .int r11), (0, .ref (G.1 0)), (4, .int v4), (5, .int v5)]) hC dX6_been_103 rfl (by decide) rfl ?_
    refine r_iinc (v := 1) (lv' := [(5, .int (v5 + 1)), (3, .int w12), (2, .int r11), (0, .ref (G.1 0)), (4, .int v4)]) hC dX6_been_104 4 rfl (by decide) (by decide) rfl ?_
    refine r_goto (tgt := 61) hC dX6_been_107 (by decide) ?_
    refine r_loc [3, 2, 1, 4, 0] rfl ?_
    exact hrec r11 w12 (v5 + 1) o hf hk
set_option maxHeartbeats 4000000 in
set_option maxRecDepth 100000 in
theorem t_X6_been_L61 {l : Launch} {G : zG} {X : zX} {K : Option Value → zS → Prop} (hC : zC G X cX6_been 6 RX6 (some .int)) {N : Nat} {u : zS} {v4 : Int32} : ∀ (n : Nat) (v2 : Int32) (v3 : Int32) (v5 : Int32) (o : Int32), f_X6_been_L61 N u v4 n v2 v3 v5 = some o → zW dscM l rm_X6_been G X K u 110 [(3, .int o)] [] → zW dscM l rm_X6_been G X K u 61 [(0, .ref (G.1 0)), (2, .int v2), (3, .int v3), (4, .int v4), (5, .int v5)] [] := by
  intro n
  induction n with
  | zero => intro v2 v3 v5 o hf; cases hf
  | succ n ih => intro v2 v3 v5 o hf hk; exact t_X6_been_L61_B hC (rec := f_X6_been_L61 N u v4 n) ih v2 v3 v5 o hf hk
set_option maxHeartbeats 4000000 in
set_option maxRecDepth 100000 in
theorem t_X6_been_J56 {l : Launch} {G : zG} {X : zX} {K : Option Value → zS → Prop} (hC : zC G X cX6_been 6 RX6 (some .int)) {N : Nat} {u : zS} : ∀ (v2 : Int32) (v3 : Int32) (s0 : Int32) (o : Int32), f_X6_been_J56 N u v2 v3 s0 = some o → K (some (.int o)) u → zW dscM l rm_X6_been G X K u 56 [(0, .ref (G.1 0)), (2, .int v2), (3, .int v3)] [.int s0] := by
  intro v2 v3 s0 o hf hk
  unfold f_X6_been_J56 at hf
  refine r_istore (lv' := [(4, .int s0), (0, .ref (G.1 0)), (2, .int v2), (3, .int v3)]) hC dX6_been_56 (by decide) rfl ?_
  refine r_iconst (v := 0) hC dX6_been_58 (by decide) ?_
  refine r_istore (lv' := [(5, .int 0), (4, .int s0), (0, .ref (G.1 0)), (2, .int v2), (3, .int v3)]) hC dX6_been_59 (by decide) rfl ?_
  refine r_loc [2, 3, 4, 1, 0] rfl ?_
  obtain ⟨q13, eq13, hf⟩ := ob_some hf
  refine t_X6_been_L61 hC N v2 v3 0 q13 eq13 ?_
  refine r_iload_n hC dX6_been_110 0 rfl ?_
  have hf := Option.some.inj hf
  subst hf
  exact r_iret hC dX6_been_111 hk
set_option maxHeartbeats 4000000 in
set_option maxRecDepth 100000 in
theorem t_X6_been {l : Launch} {G : zG} {X : zX} {K : Option Value → zS → Prop} (hC : zC G X cX6_been 6 RX6 (some .int)) {N : Nat} {u : zS} {v1 : Int32} (o : Int32) (hf : f_X6_been N u v1 = some o) (hk : K (some (.int o)) u) : zW dscM l rm_X6_been G X K u 0 [(0, .ref (G.1 0)), (1, .int v1)] [] := by
  unfold f_X6_been at hf
  refine r_aload_n hC dX6_been_0 0 rfl ?_
  refine r_iload_n hC dX6_been_1 1 rfl ?_
  refine r_cvi (As := [.int v1]) (rest := []) hC c_X6_isAngel yv_X6_isAngel ml_RX6_100 dM_0 ⟨by decide, by decide, rfl, rfl⟩ rfl rfl (Nat.le_of_ble_eq_true rfl) dX6_been_2 ?_
  refine r_if_ne (tgt := 10) hC dX6_been_5 (by decide) (fun c1 => ?_) (fun c1 => ?_)
  · have hf := ite_f c1 hf
    refine r_aload_n hC dX6_been_10 0 rfl ?_
    refine r_getr hC fd_RX6_7 dM_0 rfl dX6_been_11 ?_
    refine r_iconst (v := 5) hC dX6_been_14 (by decide) ?_
    refine r_iload_n hC dX6_been_15 1 rfl ?_
    refine r_iadd hC dX6_been_16 ?_
    obtain ⟨g2, hf⟩ := og_in hf
    refine r_iald hC dM_1 g2 dX6_been_17 ?_
    refine r_topi (fun w3 ew3 => ?_)
    have hf := olet_at ew3 hf
    refine r_istore_n (lv' := [(2, .int w3), (0, .ref (G.1 0)), (1, .int v1)]) hC dX6_been_18 rfl (by decide) rfl ?_
    refine r_iload_n hC dX6_been_19 0 rfl ?_
    refine r_bipush (v := (-4)) hC dX6_been_20 (by decide) ?_
    refine r_icmp_ne (tgt := 27) hC dX6_been_22 (by decide) (fun c4 => ?_) (fun c4 => ?_)
    · have hf := ite_f c4 hf
      refine r_iconst (v := 1) hC dX6_been_27 (by decide) ?_
      refine r_iload_n hC dX6_been_28 0 rfl ?_
      refine r_ishl (x := 1) (y := w3) hC dX6_been_29 ?_
      refine r_topi (fun w5 ew5 => ?_)
      have hf := olet_at ew5 hf
      refine r_istore_n (lv' := [(3, .int w5), (2, .int w3), (0, .ref (G.1 0)), (1, .int v1)]) hC dX6_been_30 rfl (by decide) rfl ?_
      refine r_aload_n hC dX6_been_31 2 rfl ?_
      refine r_getr hC fd_RX6_7 dM_0 rfl dX6_been_32 ?_
      refine r_iconst (v := 2) hC dX6_been_35 (by decide) ?_
      refine r_ialdK (j := 2) hC dM_1 (inK (by decide)) dX6_been_36 ?_
      refine r_if_ne (tgt := 44) hC dX6_been_37 (by decide) (fun c6 => ?_) (fun c6 => ?_)
      · have hf := ite_f c6 hf
        refine r_aload_n hC dX6_been_44 2 rfl ?_
        refine r_iload_n hC dX6_been_45 1 rfl ?_
        obtain ⟨r7, er7, hf⟩ := ob_some hf
        refine r_cvi (As := [.int w3]) (rest := []) hC (c_X6_ringOf er7) yv_X6_ringOf ml_RX6_171 dM_0 ⟨by decide, by decide, rfl, rfl⟩ rfl rfl (Nat.le_of_ble_eq_true rfl) dX6_been_46 ?_
        refine r_aload_n hC dX6_been_49 2 rfl ?_
        refine r_getr hC fd_RX6_7 dM_0 rfl dX6_been_50 ?_
        refine r_iconst (v := 2) hC dX6_been_53 (by decide) ?_
        refine r_ialdK (j := 2) hC dM_1 (inK (by decide)) dX6_been_54 ?_
        refine r_imul hC dX6_been_55 ?_
        refine r_loc [2, 1, 0] rfl ?_
        exact t_X6_been_J56 hC  w3 w5 (r7 * (u.1 1 2)) o hf hk
      · have hf := ite_t c6 hf
        refine r_iconst (v := 0) hC dX6_been_40 (by decide) ?_
        refine r_goto (tgt := 56) hC dX6_been_41 (by decide) ?_
        refine r_loc [2, 1, 0] rfl ?_
        exact t_X6_been_J56 hC  w3 w5 0 o hf hk
    · have hf := ite_t c4 hf
      refine r_iconst (v := 0) hC dX6_been_25 (by decide) ?_
      have hf := Option.some.inj hf
      subst hf
      exact r_iret hC dX6_been_26 hk
  · have hf := ite_t c1 hf
    refine r_iconst (v := (-1)) hC dX6_been_8 (by decide) ?_
    have hf := Option.some.inj hf
    subst hf
    exact r_iret hC dX6_been_9 hk
set_option maxHeartbeats 4000000 in
set_option maxRecDepth 100000 in
theorem c_X6_been {l : Launch} {G : zG} {N : Nat} {u : zS} {v1 : Int32} {r : Int32} (hf : f_X6_been N u v1 = some r) : zM l dscM yX6_been cX6_been 6 (some .int) rm_X6_been G [.ref (G.1 0), .int v1] u (some (.int r)) u := zM.of (by decide) (Nat.le_of_ble_eq_true rfl) (fun X hC => t_X6_been hC r hf ⟨rfl, rfl⟩)
set_option maxHeartbeats 4000000 in
set_option maxRecDepth 100000 in
theorem t_X6_ledBy_L5_B {l : Launch} {G : zG} {X : zX} {K : Option Value → zS → Prop} (hC : zC G X cX6_ledBy 5 RX6 (some .int)) {N : Nat} {u : zS} {v1 : Int32} {v2 : Int32} {rec : Int32 → Int32 → Option (Int32)} (hrec : ∀ (v3 : Int32) (v4 : Int32) (o : Int32), rec v3 v4 = some o → zW dscM l rm_X6_ledBy G X K u 43 [(3, .int o)] [] → zW dscM l rm_X6_ledBy G X K u 5 [(0, .ref (G.1 0)), (1, .int v1), (2, .int v2), (3, .int v3), (4, .int v4)] []) : ∀ (v3 : Int32) (v4 : Int32) (o : Int32), f_X6_ledBy_L5_B N u v1 v2 rec v3 v4 = some o → zW dscM l rm_X6_ledBy G X K u 43 [(3, .int o)] [] → zW dscM l rm_X6_ledBy G X K u 5 [(0, .ref (G.1 0)), (1, .int v1), (2, .int v2), (3, .int v3), (4, .int v4)] [] := by
  intro v3 v4 o hf hk
  unfold f_X6_ledBy_L5_B at hf
  refine r_iload hC dX6_ledBy_5 4 rfl ?_
  refine r_bipush (v := 8) hC dX6_ledBy_7 (by decide) ?_
  refine r_icmp_ge (tgt := 43) hC dX6_ledBy_9 (by decide) (fun c1 => ?_) (fun c1 => ?_)
  · have hf := ite_t c1 hf
    have hf := Option.some.inj hf
    subst hf
    refine r_loc [3] rfl ?_
    exact hk
  · have hf := ite_f c1 hf
    refine r_iload_n hC dX6_ledBy_12 3 rfl ?_
    refine r_iload_n hC dX6_ledBy_13 2 rfl ?_
    refine r_iload hC dX6_ledBy_14 4 rfl ?_
    refine r_csi (As := [.int v2, .int v4]) (rest := [.int v3]) hC c_X6_has ys_X6_has ml_RX6_82 ⟨by decide, by decide, rfl, rfl⟩ rfl rfl (Nat.le_of_ble_eq_true rfl) dX6_ledBy_16 ?_
    refine r_if_eq (tgt := 34) hC dX6_ledBy_19 (by decide) (fun c2 => ?_) (fun c2 => ?_)
    · have hf := ite_t c2 hf
      refine r_iconst (v := 0) hC dX6_ledBy_34 (by decide) ?_
      refine r_ior hC dX6_ledBy_35 ?_
      refine r_istore_n (lv' := [(3, .int (v3 ||| 0)), (0, .ref (G.1 0)), (1, .int v1), (2, .int v2), (4, .int v4)]) hC dX6_ledBy_36 rfl (by decide) rfl ?_
      refine r_iinc (v := 1) (lv' := [(4, .int (v4 + 1)), (3, .int (v3 ||| 0)), (0, .ref (G.1 0)), (1, .int v1), (2, .int v2)]) hC dX6_ledBy_37 4 rfl (by decide) (by decide) rfl ?_
      refine r_goto (tgt := 5) hC dX6_ledBy_40 (by decide) ?_
      refine r_loc [2, 3, 4, 1, 0] rfl ?_
      exact hrec (v3 ||| 0) (v4 + 1) o hf hk
    · have hf := ite_f c2 hf
      refine r_iconst (v := 1) hC dX6_ledBy_22 (by decide) ?_
      refine r_aload_n hC dX6_ledBy_23 0 rfl ?_
      refine r_iload_n hC dX6_ledBy_24 1 rfl ?_
      refine r_iload hC dX6_ledBy_25 4 rfl ?_
      obtain ⟨r3, er3, hf⟩ := ob_some hf
      refine r_cvi (As := [.int v1, .int v4]) (rest := [.int 1, .int v3]) hC (c_X6_leadsOf er3) yv_X6_leadsOf ml_RX6_67 dM_0 ⟨by decide, by decide, rfl, rfl⟩ rfl rfl (Nat.le_of_ble_eq_true rfl) dX6_ledBy_27 ?_
      refine r_ishl (x := 1) (y := r3) hC dX6_ledBy_30 ?_
      refine r_goto (tgt := 35) hC dX6_ledBy_31 (by decide) ?_
      refine r_ior hC dX6_ledBy_35 ?_
      refine r_topi (fun w4 ew4 => ?_)
      have hf := olet_at ew4 hf
      refine r_istore_n (lv' := [(3, .int w4), (0, .ref (G.1 0)), (1, .int v1), (2, .int v2), (4, .int v4)]) hC dX6_ledBy_36 rfl (by decide) rfl ?_
      refine r_iinc (v := 1) (lv' := [(4, .int (v4 + 1)), (3, .int w4), (0, .ref (G.1 0)), (1, .int v1), (2, .int v2)]) hC dX6_ledBy_37 4 rfl (by decide) (by decide) rfl ?_
      refine r_goto (tgt := 5) hC dX6_ledBy_40 (by decide) ?_
      refine r_loc [2, 3, 4, 1, 0] rfl ?_
      exact hrec w4 (v4 + 1) o hf hk
set_option maxHeartbeats 4000000 in
set_option maxRecDepth 100000 in
theorem t_X6_ledBy_L5 {l : Launch} {G : zG} {X : zX} {K : Option Value → zS → Prop} (hC : zC G X cX6_ledBy 5 RX6 (some .int)) {N : Nat} {u : zS} {v1 : Int32} {v2 : Int32} : ∀ (n : Nat) (v3 : Int32) (v4 : Int32) (o : Int32), f_X6_ledBy_L5 N u v1 v2 n v3 v4 = some o → zW dscM l rm_X6_ledBy G X K u 43 [(3, .int o)] [] → zW dscM l rm_X6_ledBy G X K u 5 [(0, .ref (G.1 0)), (1, .int v1), (2, .int v2), (3, .int v3), (4, .int v4)] [] := by
  intro n
  induction n with
  | zero => intro v3 v4 o hf; cases hf
  | succ n ih => intro v3 v4 o hf hk; exact t_X6_ledBy_L5_B hC (rec := f_X6_ledBy_L5 N u v1 v2 n) ih v3 v4 o hf hk
set_option maxHeartbeats 4000000 in
set_option maxRecDepth 100000 in
theorem t_X6_ledBy {l : Launch} {G : zG} {X : zX} {K : Option Value → zS → Prop} (hC : zC G X cX6_ledBy 5 RX6 (some .int)) {N : Nat} {u : zS} {v1 : Int32} {v2 : Int32} (o : Int32) (hf : f_X6_ledBy N u v1 v2 = some o) (hk : K (some (.int o)) u) : zW dscM l rm_X6_ledBy G X K u 0 [(0, .ref (G.1 0)), (1, .int v1), (2, .int v2)] [] := by
  unfold f_X6_ledBy at hf
  refine r_iconst (v := 0) hC dX6_ledBy_0 (by decide) ?_
  refine r_istore_n (lv' := [(3, .int 0), (0, .ref (G.1 0)), (1, .int v1), (2, .int v2)]) hC dX6_ledBy_1 rfl (by decide) rfl ?_
  refine r_iconst (v := 0) hC dX6_ledBy_2 (by decide) ?_
  refine r_istore (lv' := [(4, .int 0), (3, .int 0), (0, .ref (G.1 0)), (1, .int v1), (2, .int v2)]) hC dX6_ledBy_3 (by decide) rfl ?_
  refine r_loc [2, 3, 4, 1, 0] rfl ?_
  obtain ⟨q5, eq5, hf⟩ := ob_some hf
  refine t_X6_ledBy_L5 hC N 0 0 q5 eq5 ?_
  refine r_iload_n hC dX6_ledBy_43 0 rfl ?_
  have hf := Option.some.inj hf
  subst hf
  exact r_iret hC dX6_ledBy_44 hk
set_option maxHeartbeats 4000000 in
set_option maxRecDepth 100000 in
theorem c_X6_ledBy {l : Launch} {G : zG} {N : Nat} {u : zS} {v1 : Int32} {v2 : Int32} {r : Int32} (hf : f_X6_ledBy N u v1 v2 = some r) : zM l dscM yX6_ledBy cX6_ledBy 5 (some .int) rm_X6_ledBy G [.ref (G.1 0), .int v1, .int v2] u (some (.int r)) u := zM.of (by decide) (Nat.le_of_ble_eq_true rfl) (fun X hC => t_X6_ledBy hC r hf ⟨rfl, rfl⟩)
set_option maxHeartbeats 4000000 in
set_option maxRecDepth 100000 in
theorem t_X6_laysFar_L2_B {l : Launch} {G : zG} {X : zX} {K : Option Value → zS → Prop} (hC : zC G X cX6_laysFar 6 RX6 (some .int)) {N : Nat} {v1 : Int32} {rec : zS → Int32 → Option (zS)} (hrec : ∀ (u : zS) (v2 : Int32) (o : zS), rec u v2 = some o → zW dscM l rm_X6_laysFar G X K o 23 [(0, .ref (G.1 0)), (1, .int v1)] [] → zW dscM l rm_X6_laysFar G X K u 2 [(0, .ref (G.1 0)), (1, .int v1), (2, .int v2)] []) : ∀ (u : zS) (v2 : Int32) (o : zS), f_X6_laysFar_L2_B N v1 rec u v2 = some o → zW dscM l rm_X6_laysFar G X K o 23 [(0, .ref (G.1 0)), (1, .int v1)] [] → zW dscM l rm_X6_laysFar G X K u 2 [(0, .ref (G.1 0)), (1, .int v1), (2, .int v2)] [] := by
  intro u v2 o hf hk
  unfold f_X6_laysFar_L2_B at hf
  refine r_iload_n hC dX6_laysFar_2 2 rfl ?_
  refine r_sipush (v := 256) hC dX6_laysFar_3 (by decide) ?_
  refine r_icmp_ge (tgt := 23) hC dX6_laysFar_6 (by decide) (fun c1 => ?_) (fun c1 => ?_)
  · have hf := ite_t c1 hf
    have hf := Option.some.inj hf
    subst hf
    refine r_loc [0, 1] rfl ?_
    exact hk
  · have hf := ite_f c1 hf
    refine r_aload_n hC dX6_laysFar_9 0 rfl ?_
    refine r_getr hC fd_RX6_29 dM_0 rfl dX6_laysFar_10 ?_
    refine r_iload_n hC dX6_laysFar_13 2 rfl ?_
    refine r_ldc hC cn_RX6_182 dX6_laysFar_14 ?_
    obtain ⟨g2, hf⟩ := og_in hf
    refine r_iast hC dM_7 g2 dX6_laysFar_16 ?_
    refine r_tops (fun u3 eu3 => ?_)
    have hf := olet_at eu3 hf
    refine r_iinc (v := 1) (lv' := [(2, .int (v2 + 1)), (0, .ref (G.1 0)), (1, .int v1)]) hC dX6_laysFar_17 2 rfl (by decide) (by decide) rfl ?_
    refine r_goto (tgt := 2) hC dX6_laysFar_20 (by decide) ?_
    refine r_loc [1, 2, 0] rfl ?_
    exact hrec u3 (v2 + 1) o hf hk
set_option maxHeartbeats 4000000 in
set_option maxRecDepth 100000 in
theorem t_X6_laysFar_L2 {l : Launch} {G : zG} {X : zX} {K : Option Value → zS → Prop} (hC : zC G X cX6_laysFar 6 RX6 (some .int)) {N : Nat} {v1 : Int32} : ∀ (n : Nat) (u : zS) (v2 : Int32) (o : zS), f_X6_laysFar_L2 N v1 n u v2 = some o → zW dscM l rm_X6_laysFar G X K o 23 [(0, .ref (G.1 0)), (1, .int v1)] [] → zW dscM l rm_X6_laysFar G X K u 2 [(0, .ref (G.1 0)), (1, .int v1), (2, .int v2)] [] := by
  intro n
  induction n with
  | zero => intro u v2 o hf; cases hf
  | succ n ih => intro u v2 o hf hk; exact t_X6_laysFar_L2_B hC (rec := f_X6_laysFar_L2 N v1 n) ih u v2 o hf hk
set_option maxHeartbeats 4000000 in
set_option maxRecDepth 100000 in
theorem t_X6_laysFar_L49_B {l : Launch} {G : zG} {X : zX} {K : Option Value → zS → Prop} (hC : zC G X cX6_laysFar 6 RX6 (some .int)) {N : Nat} {v3 : Int32} {rec : zS → Int32 → Int32 → Option (Int32 × zS)} (hrec : ∀ (u : zS) (v2 : Int32) (v4 : Int32) (o : Int32 × zS), rec u v2 v4 = some o → zW dscM l rm_X6_laysFar G X K o.2 123 [(0, .ref (G.1 0)), (2, .int o.1), (3, .int v3)] [] → zW dscM l rm_X6_laysFar G X K u 49 [(0, .ref (G.1 0)), (2, .int v2), (3, .int v3), (4, .int v4)] []) : ∀ (u : zS) (v2 : Int32) (v4 : Int32) (o : Int32 × zS), f_X6_laysFar_L49_B N v3 rec u v2 v4 = some o → zW dscM l rm_X6_laysFar G X K o.2 123 [(0, .ref (G.1 0)), (2, .int o.1), (3, .int v3)] [] → zW dscM l rm_X6_laysFar G X K u 49 [(0, .ref (G.1 0)), (2, .int v2), (3, .int v3), (4, .int v4)] [] := by
  intro u v2 v4 o hf hk
  unfold f_X6_laysFar_L49_B at hf
  refine r_iload hC dX6_laysFar_49 3 rfl ?_
  refine r_aload_n hC dX6_laysFar_51 0 rfl ?_
  refine r_getr hC fd_RX6_7 dM_0 rfl dX6_laysFar_52 ?_
  refine r_iconst (v := 1) hC dX6_laysFar_55 (by decide) ?_
  refine r_ialdK (j := 1) hC dM_1 (inK (by decide)) dX6_laysFar_56 ?_
  refine r_icmp_ge (tgt := 123) hC dX6_laysFar_57 (by decide) (fun c9 => ?_) (fun c9 => ?_)
  · have hf := ite_t c9 hf
    have hf := Option.some.inj hf
    subst hf
    refine r_loc [0, 1, 2] rfl ?_
    exact hk
  · have hf := ite_f c9 hf
    refine r_aload_n hC dX6_laysFar_60 0 rfl ?_
    refine r_iload hC dX6_laysFar_61 3 rfl ?_
    refine r_aload_n hC dX6_laysFar_63 0 rfl ?_
    refine r_getr hC fd_RX6_32 dM_0 rfl dX6_laysFar_64 ?_
    refine r_iload_n hC dX6_laysFar_67 2 rfl ?_
    obtain ⟨g10, hf⟩ := og_in hf
    refine r_iald hC dM_8 g10 dX6_laysFar_68 ?_
    obtain ⟨r11, er11, hf⟩ := ob_some hf
    refine r_cvi (As := [.int v4, .int (u.1 8 (Int32.toNatClampNeg v3))]) (rest := []) hC (c_X6_ledBy er11) yv_X6_ledBy ml_RX6_183 dM_0 ⟨by decide, by decide, rfl, rfl⟩ rfl rfl (Nat.le_of_ble_eq_true rfl) dX6_laysFar_69 ?_
    refine r_istore (lv' := [(5, .int r11), (0, .ref (G.1 0)), (2, .int v2), (3, .int v3), (4, .int v4)]) hC dX6_laysFar_72 (by decide) rfl ?_
    refine r_aload_n hC dX6_laysFar_74 1 rfl ?_
    refine r_getr hC fd_RX6_29 dM_0 rfl dX6_laysFar_75 ?_
    refine r_iload hC dX6_laysFar_78 0 rfl ?_
    obtain ⟨g12, hf⟩ := og_in hf
    refine r_iald hC dM_7 g12 dX6_laysFar_80 ?_
    refine r_ldc hC cn_RX6_182 dX6_laysFar_81 ?_
    refine r_icmp_ne (tgt := 117) hC dX6_laysFar_83 (by decide) (fun c13 => ?_) (fun c13 => ?_)
    · have hf := ite_f c13 hf
      refine r_iinc (v := 1) (lv' := [(4, .int (v4 + 1)), (5, .int r11), (0, .ref (G.1 0)), (2, .int v2), (3, .int v3)]) hC dX6_laysFar_117 4 rfl (by decide) (by decide) rfl ?_
      refine r_goto (tgt := 49) hC dX6_laysFar_120 (by decide) ?_
      refine r_loc [2, 3, 4, 0] rfl ?_
      exact hrec u v2 (v4 + 1) o hf hk
    · have hf := ite_t c13 hf
      refine r_aload_n hC dX6_laysFar_86 1 rfl ?_
      refine r_getr hC fd_RX6_29 dM_0 rfl dX6_laysFar_87 ?_
      refine r_iload hC dX6_laysFar_90 0 rfl ?_
      refine r_aload_n hC dX6_laysFar_92 1 rfl ?_
      refine r_getr hC fd_RX6_29 dM_0 rfl dX6_laysFar_93 ?_
      refine r_aload_n hC dX6_laysFar_96 1 rfl ?_
      refine r_getr hC fd_RX6_32 dM_0 rfl dX6_laysFar_97 ?_
      refine r_iload_n hC dX6_laysFar_100 3 rfl ?_
      obtain ⟨g14, hf⟩ := og_in hf
      refine r_iald hC dM_8 g14 dX6_laysFar_101 ?_
      obtain ⟨g15, hf⟩ := og_in hf
      refine r_iald hC dM_7 g15 dX6_laysFar_102 ?_
      refine r_iconst (v := 1) hC dX6_laysFar_103 (by decide) ?_
      refine r_iadd hC dX6_laysFar_104 ?_
      obtain ⟨g16, hf⟩ := og_in hf
      refine r_iast hC dM_7 g16 dX6_laysFar_105 ?_
      refine r_tops (fun u17 eu17 => ?_)
      have hf := olet_at eu17 hf
      refine r_aload_n hC dX6_laysFar_106 1 rfl ?_
      refine r_getr hC fd_RX6_32 dM_0 rfl dX6_laysFar_107 ?_
      refine r_iload_n hC dX6_laysFar_110 2 rfl ?_
      refine r_iload hC dX6_laysFar_111 0 rfl ?_
      obtain ⟨g18, hf⟩ := og_in hf
      refine r_iast hC dM_8 g18 dX6_laysFar_113 ?_
      refine r_tops (fun u19 eu19 => ?_)
      have hf := olet_at eu19 hf
      refine r_iinc (v := 1) (lv' := [(2, .int (v2 + 1)), (5, .int r11), (0, .ref (G.1 0)), (3, .int v3), (4, .int v4)]) hC dX6_laysFar_114 2 rfl (by decide) (by decide) rfl ?_
      refine r_iinc (v := 1) (lv' := [(4, .int (v4 + 1)), (2, .int (v2 + 1)), (5, .int r11), (0, .ref (G.1 0)), (3, .int v3)]) hC dX6_laysFar_117 4 rfl (by decide) (by decide) rfl ?_
      refine r_goto (tgt := 49) hC dX6_laysFar_120 (by decide) ?_
      refine r_loc [3, 1, 4, 0] rfl ?_
      exact hrec u19 (v2 + 1) (v4 + 1) o hf hk
set_option maxHeartbeats 4000000 in
set_option maxRecDepth 100000 in
theorem t_X6_laysFar_L49 {l : Launch} {G : zG} {X : zX} {K : Option Value → zS → Prop} (hC : zC G X cX6_laysFar 6 RX6 (some .int)) {N : Nat} {v3 : Int32} : ∀ (n : Nat) (u : zS) (v2 : Int32) (v4 : Int32) (o : Int32 × zS), f_X6_laysFar_L49 N v3 n u v2 v4 = some o → zW dscM l rm_X6_laysFar G X K o.2 123 [(0, .ref (G.1 0)), (2, .int o.1), (3, .int v3)] [] → zW dscM l rm_X6_laysFar G X K u 49 [(0, .ref (G.1 0)), (2, .int v2), (3, .int v3), (4, .int v4)] [] := by
  intro n
  induction n with
  | zero => intro u v2 v4 o hf; cases hf
  | succ n ih => intro u v2 v4 o hf hk; exact t_X6_laysFar_L49_B hC (rec := f_X6_laysFar_L49 N v3 n) ih u v2 v4 o hf hk
set_option maxHeartbeats 4000000 in
set_option maxRecDepth 100000 in
theorem t_X6_laysFar_L41_B {l : Launch} {G : zG} {X : zX} {K : Option Value → zS → Prop} (hC : zC G X cX6_laysFar 6 RX6 (some .int)) {N : Nat} {rec : zS → Int32 → Int32 → Option (Int32 × zS)} (hrec : ∀ (u : zS) (v2 : Int32) (v3 : Int32) (o : Int32 × zS), rec u v2 v3 = some o → zW dscM l rm_X6_laysFar G X K o.2 129 [(2, .int o.1)] [] → zW dscM l rm_X6_laysFar G X K u 41 [(0, .ref (G.1 0)), (2, .int v2), (3, .int v3)] []) : ∀ (u : zS) (v2 : Int32) (v3 : Int32) (o : Int32 × zS), f_X6_laysFar_L41_B N rec u v2 v3 = some o → zW dscM l rm_X6_laysFar G X K o.2 129 [(2, .int o.1)] [] → zW dscM l rm_X6_laysFar G X K u 41 [(0, .ref (G.1 0)), (2, .int v2), (3, .int v3)] [] := by
  intro u v2 v3 o hf hk
  unfold f_X6_laysFar_L41_B at hf
  refine r_iload_n hC dX6_laysFar_41 2 rfl ?_
  refine r_iload_n hC dX6_laysFar_42 1 rfl ?_
  refine r_icmp_ge (tgt := 129) hC dX6_laysFar_43 (by decide) (fun c8 => ?_) (fun c8 => ?_)
  · have hf := ite_t c8 hf
    have hf := Option.some.inj hf
    subst hf
    refine r_loc [1] rfl ?_
    exact hk
  · have hf := ite_f c8 hf
    refine r_iconst (v := 0) hC dX6_laysFar_46 (by decide) ?_
    refine r_istore (lv' := [(4, .int 0), (0, .ref (G.1 0)), (2, .int v2), (3, .int v3)]) hC dX6_laysFar_47 (by decide) rfl ?_
    refine r_loc [1, 2, 3, 0] rfl ?_
    obtain ⟨q20, eq20, hf⟩ := ob_some hf
    refine t_X6_laysFar_L49 hC N u v2 0 q20 eq20 ?_
    refine r_iinc (v := 1) (lv' := [(3, .int (v3 + 1)), (0, .ref (G.1 0)), (2, .int q20.1)]) hC dX6_laysFar_123 2 rfl (by decide) (by decide) rfl ?_
    refine r_goto (tgt := 41) hC dX6_laysFar_126 (by decide) ?_
    refine r_loc [1, 2, 0] rfl ?_
    exact hrec q20.2 q20.1 (v3 + 1) o hf hk
set_option maxHeartbeats 4000000 in
set_option maxRecDepth 100000 in
theorem t_X6_laysFar_L41 {l : Launch} {G : zG} {X : zX} {K : Option Value → zS → Prop} (hC : zC G X cX6_laysFar 6 RX6 (some .int)) {N : Nat} : ∀ (n : Nat) (u : zS) (v2 : Int32) (v3 : Int32) (o : Int32 × zS), f_X6_laysFar_L41 N n u v2 v3 = some o → zW dscM l rm_X6_laysFar G X K o.2 129 [(2, .int o.1)] [] → zW dscM l rm_X6_laysFar G X K u 41 [(0, .ref (G.1 0)), (2, .int v2), (3, .int v3)] [] := by
  intro n
  induction n with
  | zero => intro u v2 v3 o hf; cases hf
  | succ n ih => intro u v2 v3 o hf hk; exact t_X6_laysFar_L41_B hC (rec := f_X6_laysFar_L41 N n) ih u v2 v3 o hf hk
set_option maxHeartbeats 4000000 in
set_option maxRecDepth 100000 in
theorem t_X6_laysFar {l : Launch} {G : zG} {X : zX} {K : Option Value → zS → Prop} (hC : zC G X cX6_laysFar 6 RX6 (some .int)) {N : Nat} {u : zS} {v1 : Int32} (o : Int32 × zS) (hf : f_X6_laysFar N u v1 = some o) (hk : K (some (.int o.1)) o.2) : zW dscM l rm_X6_laysFar G X K u 0 [(0, .ref (G.1 0)), (1, .int v1)] [] := by
  unfold f_X6_laysFar at hf
  refine r_iconst (v := 0) hC dX6_laysFar_0 (by decide) ?_
  refine r_istore_n (lv' := [(2, .int 0), (0, .ref (G.1 0)), (1, .int v1)]) hC dX6_laysFar_1 rfl (by decide) rfl ?_
  refine r_loc [1, 2, 0] rfl ?_
  obtain ⟨q4, eq4, hf⟩ := ob_some hf
  refine t_X6_laysFar_L2 hC N u 0 q4 eq4 ?_
  refine r_iconst (v := 1) hC dX6_laysFar_23 (by decide) ?_
  refine r_istore_n (lv' := [(2, .int 1), (0, .ref (G.1 0)), (1, .int v1)]) hC dX6_laysFar_24 rfl (by decide) rfl ?_
  refine r_aload_n hC dX6_laysFar_25 1 rfl ?_
  refine r_getr hC fd_RX6_32 dM_0 rfl dX6_laysFar_26 ?_
  refine r_iconst (v := 0) hC dX6_laysFar_29 (by decide) ?_
  refine r_iload_n hC dX6_laysFar_30 2 rfl ?_
  refine r_iastK (j := 0) hC dM_8 (inK (by decide)) dX6_laysFar_31 ?_
  refine r_tops (fun u5 eu5 => ?_)
  have hf := olet_at eu5 hf
  refine r_aload_n hC dX6_laysFar_32 1 rfl ?_
  refine r_getr hC fd_RX6_29 dM_0 rfl dX6_laysFar_33 ?_
  refine r_iload_n hC dX6_laysFar_36 2 rfl ?_
  refine r_iconst (v := 0) hC dX6_laysFar_37 (by decide) ?_
  obtain ⟨g6, hf⟩ := og_in hf
  refine r_iast hC dM_7 g6 dX6_laysFar_38 ?_
  refine r_tops (fun u7 eu7 => ?_)
  have hf := olet_at eu7 hf
  refine r_iconst (v := 0) hC dX6_laysFar_39 (by decide) ?_
  refine r_istore_n (lv' := [(3, .int 0), (2, .int 1), (0, .ref (G.1 0)), (1, .int v1)]) hC dX6_laysFar_40 rfl (by decide) rfl ?_
  refine r_loc [2, 1, 0] rfl ?_
  obtain ⟨q21, eq21, hf⟩ := ob_some hf
  refine t_X6_laysFar_L41 hC N u7 1 0 q21 eq21 ?_
  refine r_iload_n hC dX6_laysFar_129 0 rfl ?_
  have hf := Option.some.inj hf
  subst hf
  exact r_iret hC dX6_laysFar_130 hk
set_option maxHeartbeats 4000000 in
set_option maxRecDepth 100000 in
theorem c_X6_laysFar {l : Launch} {G : zG} {N : Nat} {u : zS} {v1 : Int32} {r : Int32 × zS} (hf : f_X6_laysFar N u v1 = some r) : zM l dscM yX6_laysFar cX6_laysFar 6 (some .int) rm_X6_laysFar G [.ref (G.1 0), .int v1] u (some (.int r.1)) r.2 := zM.of (by decide) (Nat.le_of_ble_eq_true rfl) (fun X hC => t_X6_laysFar hC r hf ⟨rfl, rfl⟩)
set_option maxHeartbeats 4000000 in
set_option maxRecDepth 100000 in
theorem t_X6_laysLeft_L2_B {l : Launch} {G : zG} {X : zX} {K : Option Value → zS → Prop} (hC : zC G X cX6_laysLeft 6 RX6 none) {N : Nat} {v1 : Int32} {rec : zS → Int32 → Option (zS)} (hrec : ∀ (u : zS) (v2 : Int32) (o : zS), rec u v2 = some o → zW dscM l rm_X6_laysLeft G X K o 32 [(0, .ref (G.1 0))] [] → zW dscM l rm_X6_laysLeft G X K u 2 [(0, .ref (G.1 0)), (1, .int v1), (2, .int v2)] []) : ∀ (u : zS) (v2 : Int32) (o : zS), f_X6_laysLeft_L2_B N v1 rec u v2 = some o → zW dscM l rm_X6_laysLeft G X K o 32 [(0, .ref (G.1 0))] [] → zW dscM l rm_X6_laysLeft G X K u 2 [(0, .ref (G.1 0)), (1, .int v1), (2, .int v2)] [] := by
  intro u v2 o hf hk
  unfold f_X6_laysLeft_L2_B at hf
  refine r_iload_n hC dX6_laysLeft_2 2 rfl ?_
  refine r_sipush (v := 256) hC dX6_laysLeft_3 (by decide) ?_
  refine r_icmp_ge (tgt := 32) hC dX6_laysLeft_6 (by decide) (fun c1 => ?_) (fun c1 => ?_)
  · have hf := ite_t c1 hf
    have hf := Option.some.inj hf
    subst hf
    refine r_loc [0] rfl ?_
    exact hk
  · have hf := ite_f c1 hf
    refine r_aload_n hC dX6_laysLeft_9 0 rfl ?_
    refine r_getr hC fd_RX6_35 dM_0 rfl dX6_laysLeft_10 ?_
    refine r_iload_n hC dX6_laysLeft_13 2 rfl ?_
    refine r_iload_n hC dX6_laysLeft_14 2 rfl ?_
    refine r_iload_n hC dX6_laysLeft_15 1 rfl ?_
    refine r_icmp_ne (tgt := 23) hC dX6_laysLeft_16 (by decide) (fun c2 => ?_) (fun c2 => ?_)
    · have hf := ite_f c2 hf
      refine r_ldc hC cn_RX6_182 dX6_laysLeft_23 ?_
      obtain ⟨g3, hf⟩ := og_in hf
      refine r_iast hC dM_9 g3 dX6_laysLeft_25 ?_
      refine r_tops (fun u4 eu4 => ?_)
      have hf := olet_at eu4 hf
      refine r_iinc (v := 1) (lv' := [(2, .int (v2 + 1)), (0, .ref (G.1 0)), (1, .int v1)]) hC dX6_laysLeft_26 2 rfl (by decide) (by decide) rfl ?_
      refine r_goto (tgt := 2) hC dX6_laysLeft_29 (by decide) ?_
      refine r_loc [1, 2, 0] rfl ?_
      exact hrec u4 (v2 + 1) o hf hk
    · have hf := ite_t c2 hf
      refine r_iconst (v := 0) hC dX6_laysLeft_19 (by decide) ?_
      refine r_goto (tgt := 25) hC dX6_laysLeft_20 (by decide) ?_
      obtain ⟨g5, hf⟩ := og_in hf
      refine r_iast hC dM_9 g5 dX6_laysLeft_25 ?_
      refine r_tops (fun u6 eu6 => ?_)
      have hf := olet_at eu6 hf
      refine r_iinc (v := 1) (lv' := [(2, .int (v2 + 1)), (0, .ref (G.1 0)), (1, .int v1)]) hC dX6_laysLeft_26 2 rfl (by decide) (by decide) rfl ?_
      refine r_goto (tgt := 2) hC dX6_laysLeft_29 (by decide) ?_
      refine r_loc [1, 2, 0] rfl ?_
      exact hrec u6 (v2 + 1) o hf hk
set_option maxHeartbeats 4000000 in
set_option maxRecDepth 100000 in
theorem t_X6_laysLeft_L2 {l : Launch} {G : zG} {X : zX} {K : Option Value → zS → Prop} (hC : zC G X cX6_laysLeft 6 RX6 none) {N : Nat} {v1 : Int32} : ∀ (n : Nat) (u : zS) (v2 : Int32) (o : zS), f_X6_laysLeft_L2 N v1 n u v2 = some o → zW dscM l rm_X6_laysLeft G X K o 32 [(0, .ref (G.1 0))] [] → zW dscM l rm_X6_laysLeft G X K u 2 [(0, .ref (G.1 0)), (1, .int v1), (2, .int v2)] [] := by
  intro n
  induction n with
  | zero => intro u v2 o hf; cases hf
  | succ n ih => intro u v2 o hf hk; exact t_X6_laysLeft_L2_B hC (rec := f_X6_laysLeft_L2 N v1 n) ih u v2 o hf hk
set_option maxHeartbeats 4000000 in
set_option maxRecDepth 100000 in
theorem t_X6_laysLeft_L52_B {l : Launch} {G : zG} {X : zX} {K : Option Value → zS → Prop} (hC : zC G X cX6_laysLeft 6 RX6 none) {N : Nat} {v3 : Int32} {rec : zS → Int32 → Int32 → Option (Int32 × zS)} (hrec : ∀ (u : zS) (v2 : Int32) (v4 : Int32) (o : Int32 × zS), rec u v2 v4 = some o → zW dscM l rm_X6_laysLeft G X K o.2 106 [(0, .ref (G.1 0)), (2, .int o.1), (3, .int v3)] [] → zW dscM l rm_X6_laysLeft G X K u 52 [(0, .ref (G.1 0)), (2, .int v2), (3, .int v3), (4, .int v4)] []) : ∀ (u : zS) (v2 : Int32) (v4 : Int32) (o : Int32 × zS), f_X6_laysLeft_L52_B N v3 rec u v2 v4 = some o → zW dscM l rm_X6_laysLeft G X K o.2 106 [(0, .ref (G.1 0)), (2, .int o.1), (3, .int v3)] [] → zW dscM l rm_X6_laysLeft G X K u 52 [(0, .ref (G.1 0)), (2, .int v2), (3, .int v3), (4, .int v4)] [] := by
  intro u v2 v4 o hf hk
  unfold f_X6_laysLeft_L52_B at hf
  refine r_iload hC dX6_laysLeft_52 3 rfl ?_
  refine r_aload_n hC dX6_laysLeft_54 0 rfl ?_
  refine r_getr hC fd_RX6_7 dM_0 rfl dX6_laysLeft_55 ?_
  refine r_iconst (v := 1) hC dX6_laysLeft_58 (by decide) ?_
  refine r_ialdK (j := 1) hC dM_1 (inK (by decide)) dX6_laysLeft_59 ?_
  refine r_icmp_ge (tgt := 106) hC dX6_laysLeft_60 (by decide) (fun c10 => ?_) (fun c10 => ?_)
  · have hf := ite_t c10 hf
    have hf := Option.some.inj hf
    subst hf
    refine r_loc [0, 1, 2] rfl ?_
    exact hk
  · have hf := ite_f c10 hf
    refine r_aload_n hC dX6_laysLeft_63 0 rfl ?_
    refine r_getr hC fd_RX6_35 dM_0 rfl dX6_laysLeft_64 ?_
    refine r_aload_n hC dX6_laysLeft_67 0 rfl ?_
    refine r_iload hC dX6_laysLeft_68 3 rfl ?_
    refine r_iload_n hC dX6_laysLeft_70 2 rfl ?_
    obtain ⟨r11, er11, hf⟩ := ob_some hf
    refine r_cvi (As := [.int v4, .int v3]) (rest := [.ref (G.1 9)]) hC (c_X6_ledBy er11) yv_X6_ledBy ml_RX6_183 dM_0 ⟨by decide, by decide, rfl, rfl⟩ rfl rfl (Nat.le_of_ble_eq_true rfl) dX6_laysLeft_71 ?_
    obtain ⟨g12, hf⟩ := og_in hf
    refine r_iald hC dM_9 g12 dX6_laysLeft_74 ?_
    refine r_iconst (v := 1) hC dX6_laysLeft_75 (by decide) ?_
    refine r_iadd hC dX6_laysLeft_76 ?_
    refine r_topi (fun w13 ew13 => ?_)
    have hf := olet_at ew13 hf
    refine r_istore (lv' := [(5, .int w13), (0, .ref (G.1 0)), (2, .int v2), (3, .int v3), (4, .int v4)]) hC dX6_laysLeft_77 (by decide) rfl ?_
    refine r_iload hC dX6_laysLeft_79 0 rfl ?_
    refine r_aload_n hC dX6_laysLeft_81 1 rfl ?_
    refine r_getr hC fd_RX6_35 dM_0 rfl dX6_laysLeft_82 ?_
    refine r_iload_n hC dX6_laysLeft_85 3 rfl ?_
    obtain ⟨g14, hf⟩ := og_in hf
    refine r_iald hC dM_9 g14 dX6_laysLeft_86 ?_
    refine r_icmp_ge (tgt := 100) hC dX6_laysLeft_87 (by decide) (fun c15 => ?_) (fun c15 => ?_)
    · have hf := ite_t c15 hf
      refine r_iinc (v := 1) (lv' := [(4, .int (v4 + 1)), (5, .int w13), (0, .ref (G.1 0)), (2, .int v2), (3, .int v3)]) hC dX6_laysLeft_100 4 rfl (by decide) (by decide) rfl ?_
      refine r_goto (tgt := 52) hC dX6_laysLeft_103 (by decide) ?_
      refine r_loc [2, 3, 4, 0] rfl ?_
      exact hrec u v2 (v4 + 1) o hf hk
    · have hf := ite_f c15 hf
      refine r_aload_n hC dX6_laysLeft_90 1 rfl ?_
      refine r_getr hC fd_RX6_35 dM_0 rfl dX6_laysLeft_91 ?_
      refine r_iload_n hC dX6_laysLeft_94 3 rfl ?_
      refine r_iload hC dX6_laysLeft_95 0 rfl ?_
      obtain ⟨g16, hf⟩ := og_in hf
      refine r_iast hC dM_9 g16 dX6_laysLeft_97 ?_
      refine r_tops (fun u17 eu17 => ?_)
      have hf := olet_at eu17 hf
      refine r_iconst (v := 1) hC dX6_laysLeft_98 (by decide) ?_
      refine r_istore_n (lv' := [(2, .int 1), (5, .int w13), (0, .ref (G.1 0)), (3, .int v3), (4, .int v4)]) hC dX6_laysLeft_99 rfl (by decide) rfl ?_
      refine r_iinc (v := 1) (lv' := [(4, .int (v4 + 1)), (2, .int 1), (5, .int w13), (0, .ref (G.1 0)), (3, .int v3)]) hC dX6_laysLeft_100 4 rfl (by decide) (by decide) rfl ?_
      refine r_goto (tgt := 52) hC dX6_laysLeft_103 (by decide) ?_
      refine r_loc [3, 1, 4, 0] rfl ?_
      exact hrec u17 1 (v4 + 1) o hf hk
set_option maxHeartbeats 4000000 in
set_option maxRecDepth 100000 in
theorem t_X6_laysLeft_L52 {l : Launch} {G : zG} {X : zX} {K : Option Value → zS → Prop} (hC : zC G X cX6_laysLeft 6 RX6 none) {N : Nat} {v3 : Int32} : ∀ (n : Nat) (u : zS) (v2 : Int32) (v4 : Int32) (o : Int32 × zS), f_X6_laysLeft_L52 N v3 n u v2 v4 = some o → zW dscM l rm_X6_laysLeft G X K o.2 106 [(0, .ref (G.1 0)), (2, .int o.1), (3, .int v3)] [] → zW dscM l rm_X6_laysLeft G X K u 52 [(0, .ref (G.1 0)), (2, .int v2), (3, .int v3), (4, .int v4)] [] := by
  intro n
  induction n with
  | zero => intro u v2 v4 o hf; cases hf
  | succ n ih => intro u v2 v4 o hf hk; exact t_X6_laysLeft_L52_B hC (rec := f_X6_laysLeft_L52 N v3 n) ih u v2 v4 o hf hk
set_option maxHeartbeats 4000000 in
set_option maxRecDepth 100000 in
theorem t_X6_laysLeft_L42_B {l : Launch} {G : zG} {X : zX} {K : Option Value → zS → Prop} (hC : zC G X cX6_laysLeft 6 RX6 none) {N : Nat} {rec : zS → Int32 → Int32 → Option (Int32 × zS)} (hrec : ∀ (u : zS) (v2 : Int32) (v3 : Int32) (o : Int32 × zS), rec u v2 v3 = some o → zW dscM l rm_X6_laysLeft G X K o.2 112 [(0, .ref (G.1 0)), (2, .int o.1)] [] → zW dscM l rm_X6_laysLeft G X K u 42 [(0, .ref (G.1 0)), (2, .int v2), (3, .int v3)] []) : ∀ (u : zS) (v2 : Int32) (v3 : Int32) (o : Int32 × zS), f_X6_laysLeft_L42_B N rec u v2 v3 = some o → zW dscM l rm_X6_laysLeft G X K o.2 112 [(0, .ref (G.1 0)), (2, .int o.1)] [] → zW dscM l rm_X6_laysLeft G X K u 42 [(0, .ref (G.1 0)), (2, .int v2), (3, .int v3)] [] := by
  intro u v2 v3 o hf hk
  unfold f_X6_laysLeft_L42_B at hf
  refine r_iload_n hC dX6_laysLeft_42 2 rfl ?_
  refine r_sipush (v := 256) hC dX6_laysLeft_43 (by decide) ?_
  refine r_icmp_ge (tgt := 112) hC dX6_laysLeft_46 (by decide) (fun c9 => ?_) (fun c9 => ?_)
  · have hf := ite_t c9 hf
    have hf := Option.some.inj hf
    subst hf
    refine r_loc [0, 1] rfl ?_
    exact hk
  · have hf := ite_f c9 hf
    refine r_iconst (v := 0) hC dX6_laysLeft_49 (by decide) ?_
    refine r_istore (lv' := [(4, .int 0), (0, .ref (G.1 0)), (2, .int v2), (3, .int v3)]) hC dX6_laysLeft_50 (by decide) rfl ?_
    refine r_loc [1, 2, 3, 0] rfl ?_
    obtain ⟨q18, eq18, hf⟩ := ob_some hf
    refine t_X6_laysLeft_L52 hC N u v2 0 q18 eq18 ?_
    refine r_iinc (v := 1) (lv' := [(3, .int (v3 + 1)), (0, .ref (G.1 0)), (2, .int q18.1)]) hC dX6_laysLeft_106 2 rfl (by decide) (by decide) rfl ?_
    refine r_goto (tgt := 42) hC dX6_laysLeft_109 (by decide) ?_
    refine r_loc [1, 2, 0] rfl ?_
    exact hrec q18.2 q18.1 (v3 + 1) o hf hk
set_option maxHeartbeats 4000000 in
set_option maxRecDepth 100000 in
theorem t_X6_laysLeft_L42 {l : Launch} {G : zG} {X : zX} {K : Option Value → zS → Prop} (hC : zC G X cX6_laysLeft 6 RX6 none) {N : Nat} : ∀ (n : Nat) (u : zS) (v2 : Int32) (v3 : Int32) (o : Int32 × zS), f_X6_laysLeft_L42 N n u v2 v3 = some o → zW dscM l rm_X6_laysLeft G X K o.2 112 [(0, .ref (G.1 0)), (2, .int o.1)] [] → zW dscM l rm_X6_laysLeft G X K u 42 [(0, .ref (G.1 0)), (2, .int v2), (3, .int v3)] [] := by
  intro n
  induction n with
  | zero => intro u v2 v3 o hf; cases hf
  | succ n ih => intro u v2 v3 o hf hk; exact t_X6_laysLeft_L42_B hC (rec := f_X6_laysLeft_L42 N n) ih u v2 v3 o hf hk
set_option maxHeartbeats 4000000 in
set_option maxRecDepth 100000 in
theorem t_X6_laysLeft_L34_B {l : Launch} {G : zG} {X : zX} {K : Option Value → zS → Prop} (hC : zC G X cX6_laysLeft 6 RX6 none) {N : Nat} {rec : zS → Int32 → Option (zS)} (hrec : ∀ (u : zS) (v2 : Int32) (o : zS), rec u v2 = some o → zW dscM l rm_X6_laysLeft G X K o 115 [] [] → zW dscM l rm_X6_laysLeft G X K u 34 [(0, .ref (G.1 0)), (2, .int v2)] []) : ∀ (u : zS) (v2 : Int32) (o : zS), f_X6_laysLeft_L34_B N rec u v2 = some o → zW dscM l rm_X6_laysLeft G X K o 115 [] [] → zW dscM l rm_X6_laysLeft G X K u 34 [(0, .ref (G.1 0)), (2, .int v2)] [] := by
  intro u v2 o hf hk
  unfold f_X6_laysLeft_L34_B at hf
  refine r_iload_n hC dX6_laysLeft_34 1 rfl ?_
  refine r_if_eq (tgt := 115) hC dX6_laysLeft_35 (by decide) (fun c8 => ?_) (fun c8 => ?_)
  · have hf := ite_t c8 hf
    have hf := Option.some.inj hf
    subst hf
    refine r_loc [] rfl ?_
    exact hk
  · have hf := ite_f c8 hf
    refine r_iconst (v := 0) hC dX6_laysLeft_38 (by decide) ?_
    refine r_istore_n (lv' := [(2, .int 0), (0, .ref (G.1 0))]) hC dX6_laysLeft_39 rfl (by decide) rfl ?_
    refine r_iconst (v := 0) hC dX6_laysLeft_40 (by decide) ?_
    refine r_istore_n (lv' := [(3, .int 0), (2, .int 0), (0, .ref (G.1 0))]) hC dX6_laysLeft_41 rfl (by decide) rfl ?_
    refine r_loc [2, 1, 0] rfl ?_
    obtain ⟨q19, eq19, hf⟩ := ob_some hf
    refine t_X6_laysLeft_L42 hC N u 0 0 q19 eq19 ?_
    refine r_goto (tgt := 34) hC dX6_laysLeft_112 (by decide) ?_
    exact hrec q19.2 q19.1 o hf hk
set_option maxHeartbeats 4000000 in
set_option maxRecDepth 100000 in
theorem t_X6_laysLeft_L34 {l : Launch} {G : zG} {X : zX} {K : Option Value → zS → Prop} (hC : zC G X cX6_laysLeft 6 RX6 none) {N : Nat} : ∀ (n : Nat) (u : zS) (v2 : Int32) (o : zS), f_X6_laysLeft_L34 N n u v2 = some o → zW dscM l rm_X6_laysLeft G X K o 115 [] [] → zW dscM l rm_X6_laysLeft G X K u 34 [(0, .ref (G.1 0)), (2, .int v2)] [] := by
  intro n
  induction n with
  | zero => intro u v2 o hf; cases hf
  | succ n ih => intro u v2 o hf hk; exact t_X6_laysLeft_L34_B hC (rec := f_X6_laysLeft_L34 N n) ih u v2 o hf hk
set_option maxHeartbeats 4000000 in
set_option maxRecDepth 100000 in
theorem t_X6_laysLeft {l : Launch} {G : zG} {X : zX} {K : Option Value → zS → Prop} (hC : zC G X cX6_laysLeft 6 RX6 none) {N : Nat} {u : zS} {v1 : Int32} (o : zS) (hf : f_X6_laysLeft N u v1 = some o) (hk : K none o) : zW dscM l rm_X6_laysLeft G X K u 0 [(0, .ref (G.1 0)), (1, .int v1)] [] := by
  unfold f_X6_laysLeft at hf
  refine r_iconst (v := 0) hC dX6_laysLeft_0 (by decide) ?_
  refine r_istore_n (lv' := [(2, .int 0), (0, .ref (G.1 0)), (1, .int v1)]) hC dX6_laysLeft_1 rfl (by decide) rfl ?_
  refine r_loc [1, 2, 0] rfl ?_
  obtain ⟨q7, eq7, hf⟩ := ob_some hf
  refine t_X6_laysLeft_L2 hC N u 0 q7 eq7 ?_
  refine r_iconst (v := 1) hC dX6_laysLeft_32 (by decide) ?_
  refine r_istore_n (lv' := [(2, .int 1), (0, .ref (G.1 0))]) hC dX6_laysLeft_33 rfl (by decide) rfl ?_
  refine r_loc [1, 0] rfl ?_
  obtain ⟨q20, eq20, hf⟩ := ob_some hf
  refine t_X6_laysLeft_L34 hC N q7 1 q20 eq20 ?_
  have hf := Option.some.inj hf
  subst hf
  exact r_vret hC dX6_laysLeft_115 hk
set_option maxHeartbeats 4000000 in
set_option maxRecDepth 100000 in
theorem c_X6_laysLeft {l : Launch} {G : zG} {N : Nat} {u : zS} {v1 : Int32} {r : zS} (hf : f_X6_laysLeft N u v1 = some r) : zM l dscM yX6_laysLeft cX6_laysLeft 6 none rm_X6_laysLeft G [.ref (G.1 0), .int v1] u none r := zM.of (by decide) (Nat.le_of_ble_eq_true rfl) (fun X hC => t_X6_laysLeft hC r hf ⟨rfl, rfl⟩)
set_option maxHeartbeats 4000000 in
set_option maxRecDepth 100000 in
theorem t_X6_shortest_L82_B {l : Launch} {G : zG} {X : zX} {K : Option Value → zS → Prop} (hC : zC G X cX6_shortest 7 RX6 (some .int)) {N : Nat} {u : zS} {v2 : Int32} {v3 : Int32} {v4 : Int32} {v6 : Int32} {rec : Int32 → Option (Int32)} (hrec : ∀ (v5 : Int32) (o : Int32), rec v5 = some o → zW dscM l rm_X6_shortest G X K u 110 [(0, .ref (G.1 0)), (2, .int v2), (3, .int v3), (4, .int v4), (5, .int o), (6, .int v6)] [] → zW dscM l rm_X6_shortest G X K u 82 [(0, .ref (G.1 0)), (2, .int v2), (3, .int v3), (4, .int v4), (5, .int v5), (6, .int v6)] []) : ∀ (v5 : Int32) (o : Int32), f_X6_shortest_L82_B N u v2 v3 v4 v6 rec v5 = some o → zW dscM l rm_X6_shortest G X K u 110 [(0, .ref (G.1 0)), (2, .int v2), (3, .int v3), (4, .int v4), (5, .int o), (6, .int v6)] [] → zW dscM l rm_X6_shortest G X K u 82 [(0, .ref (G.1 0)), (2, .int v2), (3, .int v3), (4, .int v4), (5, .int v5), (6, .int v6)] [] := by
  intro v5 o hf hk
  unfold f_X6_shortest_L82_B at hf
  refine r_aload_n hC dX6_shortest_82 0 rfl ?_
  refine r_getr hC fd_RX6_35 dM_0 rfl dX6_shortest_83 ?_
  refine r_aload_n hC dX6_shortest_86 0 rfl ?_
  refine r_iload hC dX6_shortest_87 4 rfl ?_
  refine r_iload_n hC dX6_shortest_89 2 rfl ?_
  obtain ⟨r12, er12, hf⟩ := ob_some hf
  refine r_cvi (As := [.int v5, .int v3]) (rest := [.ref (G.1 9)]) hC (c_X6_ledBy er12) yv_X6_ledBy ml_RX6_183 dM_0 ⟨by decide, by decide, rfl, rfl⟩ rfl rfl (Nat.le_of_ble_eq_true rfl) dX6_shortest_90 ?_
  obtain ⟨g13, hf⟩ := og_in hf
  refine r_iald hC dM_9 g13 dX6_shortest_93 ?_
  refine r_iload hC dX6_shortest_94 3 rfl ?_
  refine r_iload hC dX6_shortest_96 5 rfl ?_
  refine r_isub hC dX6_shortest_98 ?_
  refine r_iconst (v := 1) hC dX6_shortest_99 (by decide) ?_
  refine r_isub hC dX6_shortest_100 ?_
  refine r_icmp_eq (tgt := 110) hC dX6_shortest_101 (by decide) (fun c14 => ?_) (fun c14 => ?_)
  · have hf := ite_t c14 hf
    have hf := Option.some.inj hf
    subst hf
    exact hk
  · have hf := ite_f c14 hf
    refine r_iinc (v := 1) (lv' := [(5, .int (v5 + 1)), (0, .ref (G.1 0)), (2, .int v2), (3, .int v3), (4, .int v4), (6, .int v6)]) hC dX6_shortest_104 4 rfl (by decide) (by decide) rfl ?_
    refine r_goto (tgt := 82) hC dX6_shortest_107 (by decide) ?_
    refine r_loc [1, 2, 3, 4, 0, 5] rfl ?_
    exact hrec (v5 + 1) o hf hk
set_option maxHeartbeats 4000000 in
set_option maxRecDepth 100000 in
theorem t_X6_shortest_L82 {l : Launch} {G : zG} {X : zX} {K : Option Value → zS → Prop} (hC : zC G X cX6_shortest 7 RX6 (some .int)) {N : Nat} {u : zS} {v2 : Int32} {v3 : Int32} {v4 : Int32} {v6 : Int32} : ∀ (n : Nat) (v5 : Int32) (o : Int32), f_X6_shortest_L82 N u v2 v3 v4 v6 n v5 = some o → zW dscM l rm_X6_shortest G X K u 110 [(0, .ref (G.1 0)), (2, .int v2), (3, .int v3), (4, .int v4), (5, .int o), (6, .int v6)] [] → zW dscM l rm_X6_shortest G X K u 82 [(0, .ref (G.1 0)), (2, .int v2), (3, .int v3), (4, .int v4), (5, .int v5), (6, .int v6)] [] := by
  intro n
  induction n with
  | zero => intro v5 o hf; cases hf
  | succ n ih => intro v5 o hf hk; exact t_X6_shortest_L82_B hC (rec := f_X6_shortest_L82 N u v2 v3 v4 v6 n) ih v5 o hf hk
set_option maxHeartbeats 4000000 in
set_option maxRecDepth 100000 in
theorem t_X6_shortest_L73_B {l : Launch} {G : zG} {X : zX} {K : Option Value → zS → Prop} (hC : zC G X cX6_shortest 7 RX6 (some .int)) {N : Nat} {u : zS} {v2 : Int32} {v4 : Int32} {rec : Int32 → Int32 → Int32 → Option (Int32)} (hrec : ∀ (v3 : Int32) (v5 : Int32) (v6 : Int32) (o : Int32), rec v3 v5 v6 = some o → zW dscM l rm_X6_shortest G X K u 124 [(5, .int o)] [] → zW dscM l rm_X6_shortest G X K u 73 [(0, .ref (G.1 0)), (2, .int v2), (3, .int v3), (4, .int v4), (5, .int v5), (6, .int v6)] []) : ∀ (v3 : Int32) (v5 : Int32) (v6 : Int32) (o : Int32), f_X6_shortest_L73_B N u v2 v4 rec v3 v5 v6 = some o → zW dscM l rm_X6_shortest G X K u 124 [(5, .int o)] [] → zW dscM l rm_X6_shortest G X K u 73 [(0, .ref (G.1 0)), (2, .int v2), (3, .int v3), (4, .int v4), (5, .int v5), (6, .int v6)] [] := by
  intro v3 v5 v6 o hf hk
  unfold f_X6_shortest_L73_B at hf
  refine r_iload hC dX6_shortest_73 5 rfl ?_
  refine r_iload_n hC dX6_shortest_75 1 rfl ?_
  refine r_icmp_gt (tgt := 124) hC dX6_shortest_76 (by decide) (fun c11 => ?_) (fun c11 => ?_)
  · have hf := ite_t c11 hf
    have hf := Option.some.inj hf
    subst hf
    refine r_loc [4] rfl ?_
    exact hk
  · have hf := ite_f c11 hf
    refine r_iconst (v := 0) hC dX6_shortest_79 (by decide) ?_
    refine r_istore (lv' := [(5, .int 0), (0, .ref (G.1 0)), (2, .int v2), (3, .int v3), (4, .int v4), (6, .int v6)]) hC dX6_shortest_80 (by decide) rfl ?_
    refine r_loc [1, 2, 3, 4, 0, 5] rfl ?_
    obtain ⟨q15, eq15, hf⟩ := ob_some hf
    refine t_X6_shortest_L82 hC N 0 q15 eq15 ?_
    refine r_aload_n hC dX6_shortest_110 0 rfl ?_
    refine r_iload hC dX6_shortest_111 4 rfl ?_
    refine r_iload_n hC dX6_shortest_113 2 rfl ?_
    obtain ⟨r16, er16, hf⟩ := ob_some hf
    refine r_cvi (As := [.int q15, .int v3]) (rest := []) hC (c_X6_ledBy er16) yv_X6_ledBy ml_RX6_183 dM_0 ⟨by decide, by decide, rfl, rfl⟩ rfl rfl (Nat.le_of_ble_eq_true rfl) dX6_shortest_114 ?_
    refine r_istore_n (lv' := [(3, .int r16), (0, .ref (G.1 0)), (2, .int v2), (4, .int v4), (5, .int q15), (6, .int v6)]) hC dX6_shortest_117 rfl (by decide) rfl ?_
    refine r_iinc (v := 1) (lv' := [(6, .int (v6 + 1)), (3, .int r16), (0, .ref (G.1 0)), (2, .int v2), (4, .int v4), (5, .int q15)]) hC dX6_shortest_118 5 rfl (by decide) (by decide) rfl ?_
    refine r_goto (tgt := 73) hC dX6_shortest_121 (by decide) ?_
    refine r_loc [2, 3, 1, 4, 5, 0] rfl ?_
    exact hrec r16 q15 (v6 + 1) o hf hk
set_option maxHeartbeats 4000000 in
set_option maxRecDepth 100000 in
theorem t_X6_shortest_L73 {l : Launch} {G : zG} {X : zX} {K : Option Value → zS → Prop} (hC : zC G X cX6_shortest 7 RX6 (some .int)) {N : Nat} {u : zS} {v2 : Int32} {v4 : Int32} : ∀ (n : Nat) (v3 : Int32) (v5 : Int32) (v6 : Int32) (o : Int32), f_X6_shortest_L73 N u v2 v4 n v3 v5 v6 = some o → zW dscM l rm_X6_shortest G X K u 124 [(5, .int o)] [] → zW dscM l rm_X6_shortest G X K u 73 [(0, .ref (G.1 0)), (2, .int v2), (3, .int v3), (4, .int v4), (5, .int v5), (6, .int v6)] [] := by
  intro n
  induction n with
  | zero => intro v3 v5 v6 o hf; cases hf
  | succ n ih => intro v3 v5 v6 o hf hk; exact t_X6_shortest_L73_B hC (rec := f_X6_shortest_L73 N u v2 v4 n) ih v3 v5 v6 o hf hk
set_option maxHeartbeats 4000000 in
set_option maxRecDepth 100000 in
theorem t_X6_shortest {l : Launch} {G : zG} {X : zX} {K : Option Value → zS → Prop} (hC : zC G X cX6_shortest 7 RX6 (some .int)) {N : Nat} {u : zS} {v1 : Int32} {v2 : Int32} (o : Int32 × zS) (hf : f_X6_shortest N u v1 v2 = some o) (hk : K (some (.int o.1)) o.2) : zW dscM l rm_X6_shortest G X K u 0 [(0, .ref (G.1 0)), (1, .int v1), (2, .int v2)] [] := by
  unfold f_X6_shortest at hf
  refine r_iload_n hC dX6_shortest_0 1 rfl ?_
  refine r_i2l hC dX6_shortest_1 ?_
  refine r_lconst (v := 0) hC dX6_shortest_2 (by decide) ?_
  refine r_ldc2 hC cn_RX6_186 dX6_shortest_3 ?_
  refine r_csi (As := [.long (Int32.toInt64 v1), .long 0, .long 255]) (rest := []) hC c_X6_in ys_X6_in ml_RX6_52 ⟨by decide, by decide, rfl, rfl⟩ rfl rfl (Nat.le_of_ble_eq_true rfl) dX6_shortest_6 ?_
  refine r_if_eq (tgt := 17) hC dX6_shortest_9 (by decide) (fun c1 => ?_) (fun c1 => ?_)
  · have hf := ite_t c1 hf
    refine r_iconst (v := (-1)) hC dX6_shortest_17 (by decide) ?_
    have hf := Option.some.inj hf
    subst hf
    exact r_iret hC dX6_shortest_18 hk
  · have hf := ite_f c1 hf
    refine r_iload_n hC dX6_shortest_12 2 rfl ?_
    refine r_iconst (v := (-1)) hC dX6_shortest_13 (by decide) ?_
    refine r_icmp_ge (tgt := 19) hC dX6_shortest_14 (by decide) (fun c2 => ?_) (fun c2 => ?_)
    · have hf := ite_t c2 hf
      refine r_aload_n hC dX6_shortest_19 0 rfl ?_
      refine r_iload_n hC dX6_shortest_20 1 rfl ?_
      obtain ⟨r3, er3, hf⟩ := ob_some hf
      refine r_cvv (As := [.int v1]) (rest := []) hC (c_X6_laysLeft er3) yv_X6_laysLeft ml_RX6_188 dM_0 ⟨by decide, by decide, rfl, rfl⟩ rfl rfl (Nat.le_of_ble_eq_true rfl) dX6_shortest_21 ?_
      refine r_aload_n hC dX6_shortest_24 0 rfl ?_
      obtain ⟨r4, er4, hf⟩ := ob_some hf
      refine r_cvi (As := []) (rest := []) hC (c_X6_taken er4) yv_X6_taken ml_RX6_78 dM_0 ⟨by decide, by decide, rfl, rfl⟩ rfl rfl (Nat.le_of_ble_eq_true rfl) dX6_shortest_25 ?_
      refine r_istore_n (lv' := [(3, .int r4), (0, .ref (G.1 0)), (1, .int v1), (2, .int v2)]) hC dX6_shortest_28 rfl (by decide) rfl ?_
      refine r_aload_n hC dX6_shortest_29 1 rfl ?_
      refine r_getr hC fd_RX6_35 dM_0 rfl dX6_shortest_30 ?_
      refine r_iload_n hC dX6_shortest_33 0 rfl ?_
      obtain ⟨g5, hf⟩ := og_in hf
      refine r_iald hC dM_9 g5 dX6_shortest_34 ?_
      refine r_ldc hC cn_RX6_182 dX6_shortest_35 ?_
      refine r_icmp_lt (tgt := 43) hC dX6_shortest_37 (by decide) (fun c6 => ?_) (fun c6 => ?_)
      · have hf := ite_t c6 hf
        refine r_aload_n hC dX6_shortest_43 1 rfl ?_
        refine r_getr hC fd_RX6_35 dM_0 rfl dX6_shortest_44 ?_
        refine r_iload_n hC dX6_shortest_47 0 rfl ?_
        obtain ⟨g7, hf⟩ := og_in hf
        refine r_iald hC dM_9 g7 dX6_shortest_48 ?_
        refine r_topi (fun w8 ew8 => ?_)
        have hf := olet_at ew8 hf
        refine r_istore (lv' := [(4, .int w8), (3, .int r4), (0, .ref (G.1 0)), (1, .int v1), (2, .int v2)]) hC dX6_shortest_49 (by decide) rfl ?_
        refine r_iload_n hC dX6_shortest_51 4 rfl ?_
        refine r_if_ge (tgt := 58) hC dX6_shortest_52 (by decide) (fun c9 => ?_) (fun c9 => ?_)
        · have hf := ite_t c9 hf
          refine r_iload_n hC dX6_shortest_58 4 rfl ?_
          refine r_iload hC dX6_shortest_59 0 rfl ?_
          refine r_icmp_lt (tgt := 67) hC dX6_shortest_61 (by decide) (fun c10 => ?_) (fun c10 => ?_)
          · have hf := ite_t c10 hf
            refine r_iconst (v := 0) hC dX6_shortest_67 (by decide) ?_
            refine r_istore (lv' := [(5, .int 0), (4, .int w8), (3, .int r4), (0, .ref (G.1 0)), (1, .int v1), (2, .int v2)]) hC dX6_shortest_68 (by decide) rfl ?_
            refine r_iconst (v := 0) hC dX6_shortest_70 (by decide) ?_
            refine r_istore (lv' := [(6, .int 0), (5, .int 0), (4, .int w8), (3, .int r4), (0, .ref (G.1 0)), (1, .int v1), (2, .int v2)]) hC dX6_shortest_71 (by decide) rfl ?_
            refine r_loc [4, 6, 3, 2, 1, 0] rfl ?_
            obtain ⟨q17, eq17, hf⟩ := ob_some hf
            refine t_X6_shortest_L73 hC N r4 0 0 q17 eq17 ?_
            refine r_iload hC dX6_shortest_124 0 rfl ?_
            have hf := Option.some.inj hf
            subst hf
            exact r_iret hC dX6_shortest_126 hk
          · have hf := ite_f c10 hf
            refine r_bipush (v := (-4)) hC dX6_shortest_64 (by decide) ?_
            have hf := Option.some.inj hf
            subst hf
            exact r_iret hC dX6_shortest_66 hk
        · have hf := ite_f c9 hf
          refine r_iload hC dX6_shortest_55 0 rfl ?_
          have hf := Option.some.inj hf
          subst hf
          exact r_iret hC dX6_shortest_57 hk
      · have hf := ite_f c6 hf
        refine r_bipush (v := (-4)) hC dX6_shortest_40 (by decide) ?_
        have hf := Option.some.inj hf
        subst hf
        exact r_iret hC dX6_shortest_42 hk
    · have hf := ite_f c2 hf
      refine r_iconst (v := (-1)) hC dX6_shortest_17 (by decide) ?_
      have hf := Option.some.inj hf
      subst hf
      exact r_iret hC dX6_shortest_18 hk
set_option maxHeartbeats 4000000 in
set_option maxRecDepth 100000 in
theorem c_X6_shortest {l : Launch} {G : zG} {N : Nat} {u : zS} {v1 : Int32} {v2 : Int32} {r : Int32 × zS} (hf : f_X6_shortest N u v1 v2 = some r) : zM l dscM yX6_shortest cX6_shortest 7 (some .int) rm_X6_shortest G [.ref (G.1 0), .int v1, .int v2] u (some (.int r.1)) r.2 := zM.of (by decide) (Nat.le_of_ble_eq_true rfl) (fun X hC => t_X6_shortest hC r hf ⟨rfl, rfl⟩)
set_option maxHeartbeats 4000000 in
set_option maxRecDepth 100000 in
theorem t_X6_sorts {l : Launch} {G : zG} {X : zX} {K : Option Value → zS → Prop} (hC : zC G X cX6_sorts 1 RX6 (some .int)) {N : Nat} {u : zS} (o : Int32 × zS) (hf : f_X6_sorts N u = some o) (hk : K (some (.int o.1)) o.2) : zW dscM l rm_X6_sorts G X K u 0 [(0, .ref (G.1 0))] [] := by
  unfold f_X6_sorts at hf
  refine r_aload_n hC dX6_sorts_0 0 rfl ?_
  refine r_aload_n hC dX6_sorts_1 0 rfl ?_
  obtain ⟨r1, er1, hf⟩ := ob_some hf
  refine r_cvi (As := []) (rest := [.ref (G.1 0)]) hC (c_X6_taken er1) yv_X6_taken ml_RX6_78 dM_0 ⟨by decide, by decide, rfl, rfl⟩ rfl rfl (Nat.le_of_ble_eq_true rfl) dX6_sorts_2 ?_
  obtain ⟨r2, er2, hf⟩ := ob_some hf
  refine r_cvi (As := [.int r1]) (rest := []) hC (c_X6_laysFar er2) yv_X6_laysFar ml_RX6_191 dM_0 ⟨by decide, by decide, rfl, rfl⟩ rfl rfl (Nat.le_of_ble_eq_true rfl) dX6_sorts_5 ?_
  have hf := Option.some.inj hf
  subst hf
  exact r_iret hC dX6_sorts_8 hk
set_option maxHeartbeats 4000000 in
set_option maxRecDepth 100000 in
theorem c_X6_sorts {l : Launch} {G : zG} {N : Nat} {u : zS} {r : Int32 × zS} (hf : f_X6_sorts N u = some r) : zM l dscM yX6_sorts cX6_sorts 1 (some .int) rm_X6_sorts G [.ref (G.1 0)] u (some (.int r.1)) r.2 := zM.of (by decide) (Nat.le_of_ble_eq_true rfl) (fun X hC => t_X6_sorts hC r hf ⟨rfl, rfl⟩)
set_option maxHeartbeats 4000000 in
set_option maxRecDepth 100000 in
theorem t_X6_apartBy {l : Launch} {G : zG} {X : zX} {K : Option Value → zS → Prop} (hC : zC G X cX6_apartBy 3 RX6 (some .int)) {u : zS} {v0 : Int32} {v1 : Int32} (o : Int32) (hf : f_X6_apartBy v0 v1 = o) (hk : K (some (.int o)) u) : zW dscM l rm_X6_apartBy G X K u 0 [(0, .int v0), (1, .int v1)] [] := by
  unfold f_X6_apartBy at hf
  refine r_iload_n hC dX6_apartBy_0 0 rfl ?_
  refine r_iload_n hC dX6_apartBy_1 1 rfl ?_
  refine r_icmp_ge (tgt := 11) hC dX6_apartBy_2 (by decide) (fun c1 => ?_) (fun c1 => ?_)
  · have hf := ite_t c1 hf
    refine r_iload_n hC dX6_apartBy_11 0 rfl ?_
    refine r_iload_n hC dX6_apartBy_12 1 rfl ?_
    refine r_isub hC dX6_apartBy_13 ?_
    refine r_istore_n (lv' := [(2, .int (v0 - v1)), (0, .int v0), (1, .int v1)]) hC dX6_apartBy_14 rfl (by decide) rfl ?_
    refine r_iload_n hC dX6_apartBy_15 0 rfl ?_
    refine r_iconst (v := 4) hC dX6_apartBy_16 (by decide) ?_
    refine r_icmp_le (tgt := 27) hC dX6_apartBy_17 (by decide) (fun c2 => ?_) (fun c2 => ?_)
    · have hf := ite_t c2 hf
      refine r_iload_n hC dX6_apartBy_27 0 rfl ?_
      subst hf
      exact r_iret hC dX6_apartBy_28 hk
    · have hf := ite_f c2 hf
      refine r_bipush (v := 8) hC dX6_apartBy_20 (by decide) ?_
      refine r_iload_n hC dX6_apartBy_22 0 rfl ?_
      refine r_isub hC dX6_apartBy_23 ?_
      refine r_goto (tgt := 28) hC dX6_apartBy_24 (by decide) ?_
      subst hf
      exact r_iret hC dX6_apartBy_28 hk
  · have hf := ite_f c1 hf
    refine r_iload_n hC dX6_apartBy_5 1 rfl ?_
    refine r_iload_n hC dX6_apartBy_6 0 rfl ?_
    refine r_isub hC dX6_apartBy_7 ?_
    refine r_goto (tgt := 14) hC dX6_apartBy_8 (by decide) ?_
    refine r_istore_n (lv' := [(2, .int (v1 - v0)), (0, .int v0), (1, .int v1)]) hC dX6_apartBy_14 rfl (by decide) rfl ?_
    refine r_iload_n hC dX6_apartBy_15 0 rfl ?_
    refine r_iconst (v := 4) hC dX6_apartBy_16 (by decide) ?_
    refine r_icmp_le (tgt := 27) hC dX6_apartBy_17 (by decide) (fun c3 => ?_) (fun c3 => ?_)
    · have hf := ite_t c3 hf
      refine r_iload_n hC dX6_apartBy_27 0 rfl ?_
      subst hf
      exact r_iret hC dX6_apartBy_28 hk
    · have hf := ite_f c3 hf
      refine r_bipush (v := 8) hC dX6_apartBy_20 (by decide) ?_
      refine r_iload_n hC dX6_apartBy_22 0 rfl ?_
      refine r_isub hC dX6_apartBy_23 ?_
      refine r_goto (tgt := 28) hC dX6_apartBy_24 (by decide) ?_
      subst hf
      exact r_iret hC dX6_apartBy_28 hk
set_option maxHeartbeats 4000000 in
set_option maxRecDepth 100000 in
theorem c_X6_apartBy {l : Launch} {G : zG} {u : zS} {v0 : Int32} {v1 : Int32} : zM l dscM yX6_apartBy cX6_apartBy 3 (some .int) rm_X6_apartBy G [.int v0, .int v1] u (some (.int (f_X6_apartBy v0 v1))) u := zM.of (by decide) (Nat.le_of_ble_eq_true rfl) (fun X hC => t_X6_apartBy hC _ rfl ⟨rfl, rfl⟩)
set_option maxHeartbeats 4000000 in
set_option maxRecDepth 100000 in
theorem t_X6_apart_L65_B {l : Launch} {G : zG} {X : zX} {K : Option Value → zS → Prop} (hC : zC G X cX6_apart 12 RX6 (some .int)) {N : Nat} {v1 : Int32} {v2 : Int32} {v3 : Int32} {rec : zS → Int32 → Option (zS)} (hrec : ∀ (u : zS) (v4 : Int32) (o : zS), rec u v4 = some o → zW dscM l rm_X6_apart G X K o 87 [(0, .ref (G.1 0)), (1, .int v1), (2, .int v2), (3, .int v3)] [] → zW dscM l rm_X6_apart G X K u 65 [(0, .ref (G.1 0)), (1, .int v1), (2, .int v2), (3, .int v3), (4, .int v4)] []) : ∀ (u : zS) (v4 : Int32) (o : zS), f_X6_apart_L65_B N v1 v2 v3 rec u v4 = some o → zW dscM l rm_X6_apart G X K o 87 [(0, .ref (G.1 0)), (1, .int v1), (2, .int v2), (3, .int v3)] [] → zW dscM l rm_X6_apart G X K u 65 [(0, .ref (G.1 0)), (1, .int v1), (2, .int v2), (3, .int v3), (4, .int v4)] [] := by
  intro u v4 o hf hk
  unfold f_X6_apart_L65_B at hf
  refine r_iload hC dX6_apart_65 4 rfl ?_
  refine r_bipush (v := 64) hC dX6_apart_67 (by decide) ?_
  refine r_icmp_ge (tgt := 87) hC dX6_apart_69 (by decide) (fun c9 => ?_) (fun c9 => ?_)
  · have hf := ite_t c9 hf
    have hf := Option.some.inj hf
    subst hf
    refine r_loc [0, 1, 2, 3] rfl ?_
    exact hk
  · have hf := ite_f c9 hf
    refine r_aload_n hC dX6_apart_72 0 rfl ?_
    refine r_getr hC fd_RX6_38 dM_0 rfl dX6_apart_73 ?_
    refine r_iload hC dX6_apart_76 4 rfl ?_
    refine r_ldc hC cn_RX6_182 dX6_apart_78 ?_
    obtain ⟨g10, hf⟩ := og_in hf
    refine r_iast hC dM_10 g10 dX6_apart_80 ?_
    refine r_tops (fun u11 eu11 => ?_)
    have hf := olet_at eu11 hf
    refine r_iinc (v := 1) (lv' := [(4, .int (v4 + 1)), (0, .ref (G.1 0)), (1, .int v1), (2, .int v2), (3, .int v3)]) hC dX6_apart_81 4 rfl (by decide) (by decide) rfl ?_
    refine r_goto (tgt := 65) hC dX6_apart_84 (by decide) ?_
    refine r_loc [1, 2, 3, 4, 0] rfl ?_
    exact hrec u11 (v4 + 1) o hf hk
set_option maxHeartbeats 4000000 in
set_option maxRecDepth 100000 in
theorem t_X6_apart_L65 {l : Launch} {G : zG} {X : zX} {K : Option Value → zS → Prop} (hC : zC G X cX6_apart 12 RX6 (some .int)) {N : Nat} {v1 : Int32} {v2 : Int32} {v3 : Int32} : ∀ (n : Nat) (u : zS) (v4 : Int32) (o : zS), f_X6_apart_L65 N v1 v2 v3 n u v4 = some o → zW dscM l rm_X6_apart G X K o 87 [(0, .ref (G.1 0)), (1, .int v1), (2, .int v2), (3, .int v3)] [] → zW dscM l rm_X6_apart G X K u 65 [(0, .ref (G.1 0)), (1, .int v1), (2, .int v2), (3, .int v3), (4, .int v4)] [] := by
  intro n
  induction n with
  | zero => intro u v4 o hf; cases hf
  | succ n ih => intro u v4 o hf hk; exact t_X6_apart_L65_B hC (rec := f_X6_apart_L65 N v1 v2 v3 n) ih u v4 o hf hk
set_option maxHeartbeats 4000000 in
set_option maxRecDepth 100000 in
theorem t_X6_apart_L209_B {l : Launch} {G : zG} {X : zX} {K : Option Value → zS → Prop} (hC : zC G X cX6_apart 12 RX6 (some .int)) {N : Nat} {v3 : Int32} {v5 : Int32} {v6 : Int32} {v7 : Int32} {v8 : Int32} {rec : zS → Int32 → Int32 → Option (Int32 × zS)} (hrec : ∀ (u : zS) (v4 : Int32) (v10 : Int32) (o : Int32 × zS), rec u v4 v10 = some o → zW dscM l rm_X6_apart G X K o.2 294 [(0, .ref (G.1 0)), (3, .int v3), (4, .int o.1), (5, .int v5), (6, .int v6), (7, .int v7)] [] → zW dscM l rm_X6_apart G X K u 209 [(0, .ref (G.1 0)), (3, .int v3), (4, .int v4), (5, .int v5), (6, .int v6), (7, .int v7), (8, .int v8), (10, .int v10)] []) : ∀ (u : zS) (v4 : Int32) (v10 : Int32) (o : Int32 × zS), f_X6_apart_L209_B N v3 v5 v6 v7 v8 rec u v4 v10 = some o → zW dscM l rm_X6_apart G X K o.2 294 [(0, .ref (G.1 0)), (3, .int v3), (4, .int o.1), (5, .int v5), (6, .int v6), (7, .int v7)] [] → zW dscM l rm_X6_apart G X K u 209 [(0, .ref (G.1 0)), (3, .int v3), (4, .int v4), (5, .int v5), (6, .int v6), (7, .int v7), (8, .int v8), (10, .int v10)] [] := by
  intro u v4 v10 o hf hk
  unfold f_X6_apart_L209_B at hf
  refine r_iload hC dX6_apart_209 7 rfl ?_
  refine r_aload_n hC dX6_apart_211 0 rfl ?_
  refine r_getr hC fd_RX6_7 dM_0 rfl dX6_apart_212 ?_
  refine r_iconst (v := 1) hC dX6_apart_215 (by decide) ?_
  refine r_ialdK (j := 1) hC dM_1 (inK (by decide)) dX6_apart_216 ?_
  refine r_icmp_ge (tgt := 294) hC dX6_apart_217 (by decide) (fun c24 => ?_) (fun c24 => ?_)
  · have hf := ite_t c24 hf
    have hf := Option.some.inj hf
    subst hf
    refine r_loc [0, 1, 2, 3, 4, 5] rfl ?_
    exact hk
  · have hf := ite_f c24 hf
    refine r_bipush (v := 8) hC dX6_apart_220 (by decide) ?_
    refine r_aload_n hC dX6_apart_222 0 rfl ?_
    refine r_iload hC dX6_apart_223 7 rfl ?_
    refine r_iload hC dX6_apart_225 6 rfl ?_
    refine r_bipush (v := 8) hC dX6_apart_227 (by decide) ?_
    refine r_idiv (x := v8) (y := 8) hC dX6_apart_229 (by decide) ?_
    obtain ⟨r25, er25, hf⟩ := ob_some hf
    refine r_cvi (As := [.int v10, .int (v8 / 8)]) (rest := [.int 8]) hC (c_X6_leadsOf er25) yv_X6_leadsOf ml_RX6_67 dM_0 ⟨by decide, by decide, rfl, rfl⟩ rfl rfl (Nat.le_of_ble_eq_true rfl) dX6_apart_230 ?_
    refine r_imul hC dX6_apart_233 ?_
    refine r_aload_n hC dX6_apart_234 0 rfl ?_
    refine r_iload hC dX6_apart_235 7 rfl ?_
    refine r_iload hC dX6_apart_237 6 rfl ?_
    refine r_bipush (v := 8) hC dX6_apart_239 (by decide) ?_
    refine r_irem (x := v8) (y := 8) hC dX6_apart_241 (by decide) ?_
    obtain ⟨r26, er26, hf⟩ := ob_some hf
    refine r_cvi (As := [.int v10, .int (v8 - v8 / 8 * 8)]) (rest := [.int (8 * r25)]) hC (c_X6_leadsOf er26) yv_X6_leadsOf ml_RX6_67 dM_0 ⟨by decide, by decide, rfl, rfl⟩ rfl rfl (Nat.le_of_ble_eq_true rfl) dX6_apart_242 ?_
    refine r_iadd hC dX6_apart_245 ?_
    refine r_topi (fun w27 ew27 => ?_)
    have hf := olet_at ew27 hf
    refine r_istore (lv' := [(11, .int w27), (0, .ref (G.1 0)), (3, .int v3), (4, .int v4), (5, .int v5), (6, .int v6), (7, .int v7), (8, .int v8), (10, .int v10)]) hC dX6_apart_246 (by decide) rfl ?_
    refine r_aload_n hC dX6_apart_248 1 rfl ?_
    refine r_getr hC fd_RX6_38 dM_0 rfl dX6_apart_249 ?_
    refine r_iload hC dX6_apart_252 0 rfl ?_
    obtain ⟨g28, hf⟩ := og_in hf
    refine r_iald hC dM_10 g28 dX6_apart_254 ?_
    refine r_ldc hC cn_RX6_182 dX6_apart_255 ?_
    refine r_icmp_ne (tgt := 288) hC dX6_apart_257 (by decide) (fun c29 => ?_) (fun c29 => ?_)
    · have hf := ite_f c29 hf
      refine r_iinc (v := 1) (lv' := [(10, .int (v10 + 1)), (11, .int w27), (0, .ref (G.1 0)), (3, .int v3), (4, .int v4), (5, .int v5), (6, .int v6), (7, .int v7), (8, .int v8)]) hC dX6_apart_288 8 rfl (by decide) (by decide) rfl ?_
      refine r_goto (tgt := 209) hC dX6_apart_291 (by decide) ?_
      refine r_loc [2, 3, 4, 5, 6, 7, 8, 0] rfl ?_
      exact hrec u v4 (v10 + 1) o hf hk
    · have hf := ite_t c29 hf
      refine r_aload_n hC dX6_apart_260 1 rfl ?_
      refine r_getr hC fd_RX6_38 dM_0 rfl dX6_apart_261 ?_
      refine r_iload hC dX6_apart_264 0 rfl ?_
      refine r_aload_n hC dX6_apart_266 1 rfl ?_
      refine r_getr hC fd_RX6_38 dM_0 rfl dX6_apart_267 ?_
      refine r_iload hC dX6_apart_270 7 rfl ?_
      obtain ⟨g30, hf⟩ := og_in hf
      refine r_iald hC dM_10 g30 dX6_apart_272 ?_
      refine r_iconst (v := 1) hC dX6_apart_273 (by decide) ?_
      refine r_iadd hC dX6_apart_274 ?_
      obtain ⟨g31, hf⟩ := og_in hf
      refine r_iast hC dM_10 g31 dX6_apart_275 ?_
      refine r_tops (fun u32 eu32 => ?_)
      have hf := olet_at eu32 hf
      refine r_aload_n hC dX6_apart_276 1 rfl ?_
      refine r_getr hC fd_RX6_32 dM_0 rfl dX6_apart_277 ?_
      refine r_iload hC dX6_apart_280 3 rfl ?_
      refine r_iload hC dX6_apart_282 0 rfl ?_
      obtain ⟨g33, hf⟩ := og_in hf
      refine r_iast hC dM_8 g33 dX6_apart_284 ?_
      refine r_tops (fun u34 eu34 => ?_)
      have hf := olet_at eu34 hf
      refine r_iinc (v := 1) (lv' := [(4, .int (v4 + 1)), (11, .int w27), (0, .ref (G.1 0)), (3, .int v3), (5, .int v5), (6, .int v6), (7, .int v7), (8, .int v8), (10, .int v10)]) hC dX6_apart_285 3 rfl (by decide) (by decide) rfl ?_
      refine r_iinc (v := 1) (lv' := [(10, .int (v10 + 1)), (4, .int (v4 + 1)), (11, .int w27), (0, .ref (G.1 0)), (3, .int v3), (5, .int v5), (6, .int v6), (7, .int v7), (8, .int v8)]) hC dX6_apart_288 8 rfl (by decide) (by decide) rfl ?_
      refine r_goto (tgt := 209) hC dX6_apart_291 (by decide) ?_
      refine r_loc [3, 4, 1, 5, 6, 7, 8, 0] rfl ?_
      exact hrec u34 (v4 + 1) (v10 + 1) o hf hk
set_option maxHeartbeats 4000000 in
set_option maxRecDepth 100000 in
theorem t_X6_apart_L209 {l : Launch} {G : zG} {X : zX} {K : Option Value → zS → Prop} (hC : zC G X cX6_apart 12 RX6 (some .int)) {N : Nat} {v3 : Int32} {v5 : Int32} {v6 : Int32} {v7 : Int32} {v8 : Int32} : ∀ (n : Nat) (u : zS) (v4 : Int32) (v10 : Int32) (o : Int32 × zS), f_X6_apart_L209 N v3 v5 v6 v7 v8 n u v4 v10 = some o → zW dscM l rm_X6_apart G X K o.2 294 [(0, .ref (G.1 0)), (3, .int v3), (4, .int o.1), (5, .int v5), (6, .int v6), (7, .int v7)] [] → zW dscM l rm_X6_apart G X K u 209 [(0, .ref (G.1 0)), (3, .int v3), (4, .int v4), (5, .int v5), (6, .int v6), (7, .int v7), (8, .int v8), (10, .int v10)] [] := by
  intro n
  induction n with
  | zero => intro u v4 v10 o hf; cases hf
  | succ n ih => intro u v4 v10 o hf hk; exact t_X6_apart_L209_B hC (rec := f_X6_apart_L209 N v3 v5 v6 v7 v8 n) ih u v4 v10 o hf hk
set_option maxHeartbeats 4000000 in
set_option maxRecDepth 100000 in
theorem t_X6_apart_J204 {l : Launch} {G : zG} {X : zX} {K : Option Value → zS → Prop} (hC : zC G X cX6_apart 12 RX6 (some .int)) {N : Nat} {v3 : Int32} {rec : zS → Int32 → Int32 → Int32 → Int32 → Option (Int32 × Int32 × zS)} (hrec : ∀ (u : zS) (v4 : Int32) (v5 : Int32) (v6 : Int32) (v7 : Int32) (o : Int32 × Int32 × zS), rec u v4 v5 v6 v7 = some o → zW dscM l rm_X6_apart G X K o.2.2 300 [(3, .int v3), (5, .int o.1), (6, .int o.2.1)] [] → zW dscM l rm_X6_apart G X K u 138 [(0, .ref (G.1 0)), (3, .int v3), (4, .int v4), (5, .int v5), (6, .int v6), (7, .int v7)] []) : ∀ (u : zS) (v4 : Int32) (v5 : Int32) (v7 : Int32) (v8 : Int32) (s0 : Int32) (o : Int32 × Int32 × zS), f_X6_apart_J204 N v3 rec u v4 v5 v7 v8 s0 = some o → zW dscM l rm_X6_apart G X K o.2.2 300 [(3, .int v3), (5, .int o.1), (6, .int o.2.1)] [] → zW dscM l rm_X6_apart G X K u 204 [(0, .ref (G.1 0)), (3, .int v3), (4, .int v4), (5, .int v5), (7, .int v7), (8, .int v8)] [.int s0] := by
  intro u v4 v5 v7 v8 s0 o hf hk
  unfold f_X6_apart_J204 at hf
  refine r_istore (lv' := [(6, .int s0), (0, .ref (G.1 0)), (3, .int v3), (4, .int v4), (5, .int v5), (7, .int v7), (8, .int v8)]) hC dX6_apart_204 (by decide) rfl ?_
  refine r_iconst (v := 0) hC dX6_apart_206 (by decide) ?_
  refine r_istore (lv' := [(10, .int 0), (6, .int s0), (0, .ref (G.1 0)), (3, .int v3), (4, .int v4), (5, .int v5), (7, .int v7), (8, .int v8)]) hC dX6_apart_207 (by decide) rfl ?_
  refine r_loc [2, 3, 4, 5, 1, 6, 7, 0] rfl ?_
  obtain ⟨q35, eq35, hf⟩ := ob_some hf
  refine t_X6_apart_L209 hC N u v4 0 q35 eq35 ?_
  refine r_iinc (v := 1) (lv' := [(7, .int (v7 + 1)), (0, .ref (G.1 0)), (3, .int v3), (4, .int q35.1), (5, .int v5), (6, .int s0)]) hC dX6_apart_294 5 rfl (by decide) (by decide) rfl ?_
  refine r_goto (tgt := 138) hC dX6_apart_297 (by decide) ?_
  refine r_loc [1, 2, 3, 4, 5, 0] rfl ?_
  exact hrec q35.2 q35.1 v5 s0 (v7 + 1) o hf hk
set_option maxHeartbeats 4000000 in
set_option maxRecDepth 100000 in
theorem t_X6_apart_J188 {l : Launch} {G : zG} {X : zX} {K : Option Value → zS → Prop} (hC : zC G X cX6_apart 12 RX6 (some .int)) {N : Nat} {v3 : Int32} {rec : zS → Int32 → Int32 → Int32 → Int32 → Option (Int32 × Int32 × zS)} (hrec : ∀ (u : zS) (v4 : Int32) (v5 : Int32) (v6 : Int32) (v7 : Int32) (o : Int32 × Int32 × zS), rec u v4 v5 v6 v7 = some o → zW dscM l rm_X6_apart G X K o.2.2 300 [(3, .int v3), (5, .int o.1), (6, .int o.2.1)] [] → zW dscM l rm_X6_apart G X K u 138 [(0, .ref (G.1 0)), (3, .int v3), (4, .int v4), (5, .int v5), (6, .int v6), (7, .int v7)] []) : ∀ (u : zS) (v4 : Int32) (v6 : Int32) (v7 : Int32) (v8 : Int32) (v9 : Int32) (s0 : Int32) (o : Int32 × Int32 × zS), f_X6_apart_J188 N v3 rec u v4 v6 v7 v8 v9 s0 = some o → zW dscM l rm_X6_apart G X K o.2.2 300 [(3, .int v3), (5, .int o.1), (6, .int o.2.1)] [] → zW dscM l rm_X6_apart G X K u 188 [(0, .ref (G.1 0)), (3, .int v3), (4, .int v4), (6, .int v6), (7, .int v7), (8, .int v8), (9, .int v9)] [.int s0] := by
  intro u v4 v6 v7 v8 v9 s0 o hf hk
  unfold f_X6_apart_J188 at hf
  refine r_istore (lv' := [(5, .int s0), (0, .ref (G.1 0)), (3, .int v3), (4, .int v4), (6, .int v6), (7, .int v7), (8, .int v8), (9, .int v9)]) hC dX6_apart_188 (by decide) rfl ?_
  refine r_iload hC dX6_apart_190 7 rfl ?_
  refine r_iload hC dX6_apart_192 4 rfl ?_
  refine r_icmp_le (tgt := 202) hC dX6_apart_194 (by decide) (fun c23 => ?_) (fun c23 => ?_)
  · have hf := ite_t c23 hf
    refine r_iload hC dX6_apart_202 4 rfl ?_
    refine r_loc [1, 2, 3, 0, 5, 6] rfl ?_
    exact t_X6_apart_J204 hC hrec  u v4 s0 v7 v8 v6 o hf hk
  · have hf := ite_f c23 hf
    refine r_iload hC dX6_apart_197 7 rfl ?_
    refine r_goto (tgt := 204) hC dX6_apart_199 (by decide) ?_
    refine r_loc [1, 2, 3, 0, 5, 6] rfl ?_
    exact t_X6_apart_J204 hC hrec  u v4 s0 v7 v8 v9 o hf hk
set_option maxHeartbeats 4000000 in
set_option maxRecDepth 100000 in
theorem t_X6_apart_L138_B {l : Launch} {G : zG} {X : zX} {K : Option Value → zS → Prop} (hC : zC G X cX6_apart 12 RX6 (some .int)) {N : Nat} {v3 : Int32} {rec : zS → Int32 → Int32 → Int32 → Int32 → Option (Int32 × Int32 × zS)} (hrec : ∀ (u : zS) (v4 : Int32) (v5 : Int32) (v6 : Int32) (v7 : Int32) (o : Int32 × Int32 × zS), rec u v4 v5 v6 v7 = some o → zW dscM l rm_X6_apart G X K o.2.2 300 [(3, .int v3), (5, .int o.1), (6, .int o.2.1)] [] → zW dscM l rm_X6_apart G X K u 138 [(0, .ref (G.1 0)), (3, .int v3), (4, .int v4), (5, .int v5), (6, .int v6), (7, .int v7)] []) : ∀ (u : zS) (v4 : Int32) (v5 : Int32) (v6 : Int32) (v7 : Int32) (o : Int32 × Int32 × zS), f_X6_apart_L138_B N v3 rec u v4 v5 v6 v7 = some o → zW dscM l rm_X6_apart G X K o.2.2 300 [(3, .int v3), (5, .int o.1), (6, .int o.2.1)] [] → zW dscM l rm_X6_apart G X K u 138 [(0, .ref (G.1 0)), (3, .int v3), (4, .int v4), (5, .int v5), (6, .int v6), (7, .int v7)] [] := by
  intro u v4 v5 v6 v7 o hf hk
  unfold f_X6_apart_L138_B at hf
  refine r_iload hC dX6_apart_138 5 rfl ?_
  refine r_iload hC dX6_apart_140 2 rfl ?_
  refine r_icmp_ge (tgt := 300) hC dX6_apart_142 (by decide) (fun c18 => ?_) (fun c18 => ?_)
  · have hf := ite_t c18 hf
    have hf := Option.some.inj hf
    subst hf
    refine r_loc [1, 3, 4] rfl ?_
    exact hk
  · have hf := ite_f c18 hf
    refine r_aload_n hC dX6_apart_145 0 rfl ?_
    refine r_getr hC fd_RX6_32 dM_0 rfl dX6_apart_146 ?_
    refine r_iload hC dX6_apart_149 5 rfl ?_
    obtain ⟨g19, hf⟩ := og_in hf
    refine r_iald hC dM_8 g19 dX6_apart_151 ?_
    refine r_topi (fun w20 ew20 => ?_)
    have hf := olet_at ew20 hf
    refine r_istore (lv' := [(8, .int w20), (0, .ref (G.1 0)), (3, .int v3), (4, .int v4), (5, .int v5), (6, .int v6), (7, .int v7)]) hC dX6_apart_152 (by decide) rfl ?_
    refine r_iload hC dX6_apart_154 0 rfl ?_
    refine r_bipush (v := 8) hC dX6_apart_156 (by decide) ?_
    refine r_idiv (x := w20) (y := 8) hC dX6_apart_158 (by decide) ?_
    refine r_iload hC dX6_apart_159 0 rfl ?_
    refine r_bipush (v := 8) hC dX6_apart_161 (by decide) ?_
    refine r_irem (x := w20) (y := 8) hC dX6_apart_163 (by decide) ?_
    refine r_csi (As := [.int (w20 / 8), .int (w20 - w20 / 8 * 8)]) (rest := []) hC c_X6_apartBy ys_X6_apartBy ml_RX6_194 ⟨by decide, by decide, rfl, rfl⟩ rfl rfl (Nat.le_of_ble_eq_true rfl) dX6_apart_164 ?_
    refine r_topi (fun w21 ew21 => ?_)
    have hf := olet_at ew21 hf
    refine r_istore (lv' := [(9, .int w21), (8, .int w20), (0, .ref (G.1 0)), (3, .int v3), (4, .int v4), (5, .int v5), (6, .int v6), (7, .int v7)]) hC dX6_apart_167 (by decide) rfl ?_
    refine r_iload hC dX6_apart_169 0 rfl ?_
    refine r_iload hC dX6_apart_171 6 rfl ?_
    refine r_icmp_le (tgt := 186) hC dX6_apart_173 (by decide) (fun c22 => ?_) (fun c22 => ?_)
    · have hf := ite_t c22 hf
      refine r_iload hC dX6_apart_186 5 rfl ?_
      refine r_loc [2, 3, 4, 6, 7, 1, 0] rfl ?_
      exact t_X6_apart_J188 hC hrec  u v4 v6 v7 w20 w21 v5 o hf hk
    · have hf := ite_f c22 hf
      refine r_aload_n hC dX6_apart_176 2 rfl ?_
      refine r_getr hC fd_RX6_38 dM_0 rfl dX6_apart_177 ?_
      refine r_iload hC dX6_apart_180 1 rfl ?_
      obtain ⟨g36, hf⟩ := og_in hf
      refine r_iald hC dM_10 g36 dX6_apart_182 ?_
      refine r_goto (tgt := 188) hC dX6_apart_183 (by decide) ?_
      refine r_loc [2, 3, 4, 6, 7, 1, 0] rfl ?_
      exact t_X6_apart_J188 hC hrec  u v4 v6 v7 w20 w21 (u.1 10 (Int32.toNatClampNeg w20)) o hf hk
set_option maxHeartbeats 4000000 in
set_option maxRecDepth 100000 in
theorem t_X6_apart_L138 {l : Launch} {G : zG} {X : zX} {K : Option Value → zS → Prop} (hC : zC G X cX6_apart 12 RX6 (some .int)) {N : Nat} {v3 : Int32} : ∀ (n : Nat) (u : zS) (v4 : Int32) (v5 : Int32) (v6 : Int32) (v7 : Int32) (o : Int32 × Int32 × zS), f_X6_apart_L138 N v3 n u v4 v5 v6 v7 = some o → zW dscM l rm_X6_apart G X K o.2.2 300 [(3, .int v3), (5, .int o.1), (6, .int o.2.1)] [] → zW dscM l rm_X6_apart G X K u 138 [(0, .ref (G.1 0)), (3, .int v3), (4, .int v4), (5, .int v5), (6, .int v6), (7, .int v7)] [] := by
  intro n
  induction n with
  | zero => intro u v4 v5 v6 v7 o hf; cases hf
  | succ n ih => intro u v4 v5 v6 v7 o hf hk; exact t_X6_apart_L138_B hC (rec := f_X6_apart_L138 N v3 n) ih u v4 v5 v6 v7 o hf hk
set_option maxHeartbeats 4000000 in
set_option maxRecDepth 100000 in
theorem t_X6_apart {l : Launch} {G : zG} {X : zX} {K : Option Value → zS → Prop} (hC : zC G X cX6_apart 12 RX6 (some .int)) {N : Nat} {u : zS} {v1 : Int32} {v2 : Int32} {v3 : Int32} (o : Int32 × zS) (hf : f_X6_apart N u v1 v2 v3 = some o) (hk : K (some (.int o.1)) o.2) : zW dscM l rm_X6_apart G X K u 0 [(0, .ref (G.1 0)), (1, .int v1), (2, .int v2), (3, .int v3)] [] := by
  unfold f_X6_apart at hf
  refine r_aload_n hC dX6_apart_0 0 rfl ?_
  refine r_iload_n hC dX6_apart_1 1 rfl ?_
  refine r_cvi (As := [.int v1]) (rest := []) hC c_X6_isAngel yv_X6_isAngel ml_RX6_100 dM_0 ⟨by decide, by decide, rfl, rfl⟩ rfl rfl (Nat.le_of_ble_eq_true rfl) dX6_apart_2 ?_
  refine r_if_eq (tgt := 31) hC dX6_apart_5 (by decide) (fun c1 => ?_) (fun c1 => ?_)
  · have hf := ite_t c1 hf
    refine r_iconst (v := (-1)) hC dX6_apart_31 (by decide) ?_
    have hf := Option.some.inj hf
    subst hf
    exact r_iret hC dX6_apart_32 hk
  · have hf := ite_f c1 hf
    refine r_aload_n hC dX6_apart_8 0 rfl ?_
    refine r_iload_n hC dX6_apart_9 2 rfl ?_
    refine r_cvi (As := [.int v2]) (rest := []) hC c_X6_isAngel yv_X6_isAngel ml_RX6_100 dM_0 ⟨by decide, by decide, rfl, rfl⟩ rfl rfl (Nat.le_of_ble_eq_true rfl) dX6_apart_10 ?_
    refine r_if_eq (tgt := 31) hC dX6_apart_13 (by decide) (fun c2 => ?_) (fun c2 => ?_)
    · have hf := ite_t c2 hf
      refine r_iconst (v := (-1)) hC dX6_apart_31 (by decide) ?_
      have hf := Option.some.inj hf
      subst hf
      exact r_iret hC dX6_apart_32 hk
    · have hf := ite_f c2 hf
      refine r_iload_n hC dX6_apart_16 1 rfl ?_
      refine r_iload_n hC dX6_apart_17 2 rfl ?_
      refine r_icmp_eq (tgt := 31) hC dX6_apart_18 (by decide) (fun c3 => ?_) (fun c3 => ?_)
      · have hf := ite_t c3 hf
        refine r_iconst (v := (-1)) hC dX6_apart_31 (by decide) ?_
        have hf := Option.some.inj hf
        subst hf
        exact r_iret hC dX6_apart_32 hk
      · have hf := ite_f c3 hf
        refine r_iload_n hC dX6_apart_21 3 rfl ?_
        refine r_i2l hC dX6_apart_22 ?_
        refine r_lconst (v := 0) hC dX6_apart_23 (by decide) ?_
        refine r_lconst (v := 1) hC dX6_apart_24 (by decide) ?_
        refine r_csi (As := [.long (Int32.toInt64 v3), .long 0, .long 1]) (rest := []) hC c_X6_in ys_X6_in ml_RX6_52 ⟨by decide, by decide, rfl, rfl⟩ rfl rfl (Nat.le_of_ble_eq_true rfl) dX6_apart_25 ?_
        refine r_if_ne (tgt := 33) hC dX6_apart_28 (by decide) (fun c4 => ?_) (fun c4 => ?_)
        · have hf := ite_f c4 hf
          refine r_aload_n hC dX6_apart_33 0 rfl ?_
          refine r_getr hC fd_RX6_7 dM_0 rfl dX6_apart_34 ?_
          refine r_iconst (v := 5) hC dX6_apart_37 (by decide) ?_
          refine r_iload_n hC dX6_apart_38 1 rfl ?_
          refine r_iadd hC dX6_apart_39 ?_
          obtain ⟨g5, hf⟩ := og_in hf
          refine r_iald hC dM_1 g5 dX6_apart_40 ?_
          refine r_bipush (v := (-4)) hC dX6_apart_41 (by decide) ?_
          refine r_icmp_eq (tgt := 59) hC dX6_apart_43 (by decide) (fun c6 => ?_) (fun c6 => ?_)
          · have hf := ite_t c6 hf
            refine r_bipush (v := (-2)) hC dX6_apart_59 (by decide) ?_
            have hf := Option.some.inj hf
            subst hf
            exact r_iret hC dX6_apart_61 hk
          · have hf := ite_f c6 hf
            refine r_aload_n hC dX6_apart_46 0 rfl ?_
            refine r_getr hC fd_RX6_7 dM_0 rfl dX6_apart_47 ?_
            refine r_iconst (v := 5) hC dX6_apart_50 (by decide) ?_
            refine r_iload_n hC dX6_apart_51 2 rfl ?_
            refine r_iadd hC dX6_apart_52 ?_
            obtain ⟨g7, hf⟩ := og_in hf
            refine r_iald hC dM_1 g7 dX6_apart_53 ?_
            refine r_bipush (v := (-4)) hC dX6_apart_54 (by decide) ?_
            refine r_icmp_ne (tgt := 62) hC dX6_apart_56 (by decide) (fun c8 => ?_) (fun c8 => ?_)
            · have hf := ite_f c8 hf
              refine r_iconst (v := 0) hC dX6_apart_62 (by decide) ?_
              refine r_istore (lv' := [(4, .int 0), (0, .ref (G.1 0)), (1, .int v1), (2, .int v2), (3, .int v3)]) hC dX6_apart_63 (by decide) rfl ?_
              refine r_loc [1, 2, 3, 4, 0] rfl ?_
              obtain ⟨q12, eq12, hf⟩ := ob_some hf
              refine t_X6_apart_L65 hC N u 0 q12 eq12 ?_
              refine r_iconst (v := 1) hC dX6_apart_87 (by decide) ?_
              refine r_istore (lv' := [(4, .int 1), (0, .ref (G.1 0)), (1, .int v1), (2, .int v2), (3, .int v3)]) hC dX6_apart_88 (by decide) rfl ?_
              refine r_aload_n hC dX6_apart_90 1 rfl ?_
              refine r_getr hC fd_RX6_32 dM_0 rfl dX6_apart_91 ?_
              refine r_iconst (v := 0) hC dX6_apart_94 (by decide) ?_
              refine r_bipush (v := 8) hC dX6_apart_95 (by decide) ?_
              refine r_aload_n hC dX6_apart_97 1 rfl ?_
              refine r_getr hC fd_RX6_7 dM_0 rfl dX6_apart_98 ?_
              refine r_iconst (v := 5) hC dX6_apart_101 (by decide) ?_
              refine r_iload_n hC dX6_apart_102 2 rfl ?_
              refine r_iadd hC dX6_apart_103 ?_
              obtain ⟨g13, hf⟩ := og_in hf
              refine r_iald hC dM_1 g13 dX6_apart_104 ?_
              refine r_imul hC dX6_apart_105 ?_
              refine r_aload_n hC dX6_apart_106 1 rfl ?_
              refine r_getr hC fd_RX6_7 dM_0 rfl dX6_apart_107 ?_
              refine r_iconst (v := 5) hC dX6_apart_110 (by decide) ?_
              refine r_iload_n hC dX6_apart_111 3 rfl ?_
              refine r_iadd hC dX6_apart_112 ?_
              obtain ⟨g14, hf⟩ := og_in hf
              refine r_iald hC dM_1 g14 dX6_apart_113 ?_
              refine r_iadd hC dX6_apart_114 ?_
              refine r_iastK (j := 0) hC dM_8 (inK (by decide)) dX6_apart_115 ?_
              refine r_tops (fun u15 eu15 => ?_)
              have hf := olet_at eu15 hf
              refine r_aload_n hC dX6_apart_116 1 rfl ?_
              refine r_getr hC fd_RX6_38 dM_0 rfl dX6_apart_117 ?_
              refine r_aload_n hC dX6_apart_120 1 rfl ?_
              refine r_getr hC fd_RX6_32 dM_0 rfl dX6_apart_121 ?_
              refine r_iconst (v := 0) hC dX6_apart_124 (by decide) ?_
              refine r_ialdK (j := 0) hC dM_8 (inK (by decide)) dX6_apart_125 ?_
              refine r_iconst (v := 0) hC dX6_apart_126 (by decide) ?_
              obtain ⟨g16, hf⟩ := og_in hf
              refine r_iast hC dM_10 g16 dX6_apart_127 ?_
              refine r_tops (fun u17 eu17 => ?_)
              have hf := olet_at eu17 hf
              refine r_ldc hC cn_RX6_182 dX6_apart_128 ?_
              refine r_istore (lv' := [(5, .int 1000000), (4, .int 1), (0, .ref (G.1 0)), (1, .int v1), (2, .int v2), (3, .int v3)]) hC dX6_apart_130 (by decide) rfl ?_
              refine r_iconst (v := (-1)) hC dX6_apart_132 (by decide) ?_
              refine r_istore (lv' := [(6, .int (-1)), (5, .int 1000000), (4, .int 1), (0, .ref (G.1 0)), (1, .int v1), (2, .int v2), (3, .int v3)]) hC dX6_apart_133 (by decide) rfl ?_
              refine r_iconst (v := 0) hC dX6_apart_135 (by decide) ?_
              refine r_istore (lv' := [(7, .int 0), (6, .int (-1)), (5, .int 1000000), (4, .int 1), (0, .ref (G.1 0)), (1, .int v1), (2, .int v2), (3, .int v3)]) hC dX6_apart_136 (by decide) rfl ?_
              refine r_loc [4, 7, 3, 2, 1, 0] rfl ?_
              obtain ⟨q37, eq37, hf⟩ := ob_some hf
              refine t_X6_apart_L138 hC N u17 1 1000000 (-1) 0 q37 eq37 ?_
              refine r_iload_n hC dX6_apart_300 0 rfl ?_
              refine r_if_ne (tgt := 309) hC dX6_apart_301 (by decide) (fun c38 => ?_) (fun c38 => ?_)
              · have hf := ite_f c38 hf
                refine r_iload hC dX6_apart_309 2 rfl ?_
                have hf := Option.some.inj hf
                subst hf
                exact r_iret hC dX6_apart_311 hk
              · have hf := ite_t c38 hf
                refine r_iload hC dX6_apart_304 1 rfl ?_
                refine r_goto (tgt := 311) hC dX6_apart_306 (by decide) ?_
                have hf := Option.some.inj hf
                subst hf
                exact r_iret hC dX6_apart_311 hk
            · have hf := ite_t c8 hf
              refine r_bipush (v := (-2)) hC dX6_apart_59 (by decide) ?_
              have hf := Option.some.inj hf
              subst hf
              exact r_iret hC dX6_apart_61 hk
        · have hf := ite_t c4 hf
          refine r_iconst (v := (-1)) hC dX6_apart_31 (by decide) ?_
          have hf := Option.some.inj hf
          subst hf
          exact r_iret hC dX6_apart_32 hk
set_option maxHeartbeats 4000000 in
set_option maxRecDepth 100000 in
theorem c_X6_apart {l : Launch} {G : zG} {N : Nat} {u : zS} {v1 : Int32} {v2 : Int32} {v3 : Int32} {r : Int32 × zS} (hf : f_X6_apart N u v1 v2 v3 = some r) : zM l dscM yX6_apart cX6_apart 12 (some .int) rm_X6_apart G [.ref (G.1 0), .int v1, .int v2, .int v3] u (some (.int r.1)) r.2 := zM.of (by decide) (Nat.le_of_ble_eq_true rfl) (fun X hC => t_X6_apart hC r hf ⟨rfl, rfl⟩)
set_option maxHeartbeats 4000000 in
set_option maxRecDepth 100000 in
theorem t_X6_chance_L71_B {l : Launch} {G : zG} {X : zX} {K : Option Value → zS → Prop} (hC : zC G X cX6_chance 13 RX6 (some .int)) {N : Nat} {v1 : Int32} {v2 : Int32} {v3 : Int32} {v4 : Int32} {v5 : Int64} {rec : zS → Int32 → Option (zS)} (hrec : ∀ (u : zS) (v7 : Int32) (o : zS), rec u v7 = some o → zW dscM l rm_X6_chance G X K o 109 [(0, .ref (G.1 0)), (2, .int v2), (3, .int v3), (4, .int v4), (5, .long v5)] [] → zW dscM l rm_X6_chance G X K u 71 [(0, .ref (G.1 0)), (1, .int v1), (2, .int v2), (3, .int v3), (4, .int v4), (5, .long v5), (7, .int v7)] []) : ∀ (u : zS) (v7 : Int32) (o : zS), f_X6_chance_L71_B N v1 v2 v3 v4 v5 rec u v7 = some o → zW dscM l rm_X6_chance G X K o 109 [(0, .ref (G.1 0)), (2, .int v2), (3, .int v3), (4, .int v4), (5, .long v5)] [] → zW dscM l rm_X6_chance G X K u 71 [(0, .ref (G.1 0)), (1, .int v1), (2, .int v2), (3, .int v3), (4, .int v4), (5, .long v5), (7, .int v7)] [] := by
  intro u v7 o hf hk
  unfold f_X6_chance_L71_B at hf
  refine r_iload hC dX6_chance_71 6 rfl ?_
  refine r_bipush (v := 8) hC dX6_chance_73 (by decide) ?_
  refine r_icmp_ge (tgt := 109) hC dX6_chance_75 (by decide) (fun c8 => ?_) (fun c8 => ?_)
  · have hf := ite_t c8 hf
    have hf := Option.some.inj hf
    subst hf
    refine r_loc [0, 2, 3, 4, 5] rfl ?_
    exact hk
  · have hf := ite_f c8 hf
    refine r_aload_n hC dX6_chance_78 0 rfl ?_
    refine r_getr hC fd_RX6_41 dM_0 rfl dX6_chance_79 ?_
    refine r_iload hC dX6_chance_82 6 rfl ?_
    refine r_iload hC dX6_chance_84 6 rfl ?_
    refine r_aload_n hC dX6_chance_86 0 rfl ?_
    refine r_getr hC fd_RX6_7 dM_0 rfl dX6_chance_87 ?_
    refine r_iconst (v := 5) hC dX6_chance_90 (by decide) ?_
    refine r_iload_n hC dX6_chance_91 1 rfl ?_
    refine r_iadd hC dX6_chance_92 ?_
    obtain ⟨g9, hf⟩ := og_in hf
    refine r_iald hC dM_1 g9 dX6_chance_93 ?_
    refine r_icmp_ne (tgt := 101) hC dX6_chance_94 (by decide) (fun c10 => ?_) (fun c10 => ?_)
    · have hf := ite_f c10 hf
      refine r_lconst (v := 0) hC dX6_chance_101 (by decide) ?_
      obtain ⟨g11, hf⟩ := og_in hf
      refine r_last hC dM_11 g11 dX6_chance_102 ?_
      refine r_tops (fun u12 eu12 => ?_)
      have hf := olet_at eu12 hf
      refine r_iinc (v := 1) (lv' := [(7, .int (v7 + 1)), (0, .ref (G.1 0)), (1, .int v1), (2, .int v2), (3, .int v3), (4, .int v4), (5, .long v5)]) hC dX6_chance_103 6 rfl (by decide) (by decide) rfl ?_
      refine r_goto (tgt := 71) hC dX6_chance_106 (by decide) ?_
      refine r_loc [1, 2, 3, 4, 5, 6, 0] rfl ?_
      exact hrec u12 (v7 + 1) o hf hk
    · have hf := ite_t c10 hf
      refine r_lconst (v := 1) hC dX6_chance_97 (by decide) ?_
      refine r_goto (tgt := 102) hC dX6_chance_98 (by decide) ?_
      obtain ⟨g13, hf⟩ := og_in hf
      refine r_last hC dM_11 g13 dX6_chance_102 ?_
      refine r_tops (fun u14 eu14 => ?_)
      have hf := olet_at eu14 hf
      refine r_iinc (v := 1) (lv' := [(7, .int (v7 + 1)), (0, .ref (G.1 0)), (1, .int v1), (2, .int v2), (3, .int v3), (4, .int v4), (5, .long v5)]) hC dX6_chance_103 6 rfl (by decide) (by decide) rfl ?_
      refine r_goto (tgt := 71) hC dX6_chance_106 (by decide) ?_
      refine r_loc [1, 2, 3, 4, 5, 6, 0] rfl ?_
      exact hrec u14 (v7 + 1) o hf hk
set_option maxHeartbeats 4000000 in
set_option maxRecDepth 100000 in
theorem t_X6_chance_L71 {l : Launch} {G : zG} {X : zX} {K : Option Value → zS → Prop} (hC : zC G X cX6_chance 13 RX6 (some .int)) {N : Nat} {v1 : Int32} {v2 : Int32} {v3 : Int32} {v4 : Int32} {v5 : Int64} : ∀ (n : Nat) (u : zS) (v7 : Int32) (o : zS), f_X6_chance_L71 N v1 v2 v3 v4 v5 n u v7 = some o → zW dscM l rm_X6_chance G X K o 109 [(0, .ref (G.1 0)), (2, .int v2), (3, .int v3), (4, .int v4), (5, .long v5)] [] → zW dscM l rm_X6_chance G X K u 71 [(0, .ref (G.1 0)), (1, .int v1), (2, .int v2), (3, .int v3), (4, .int v4), (5, .long v5), (7, .int v7)] [] := by
  intro n
  induction n with
  | zero => intro u v7 o hf; cases hf
  | succ n ih => intro u v7 o hf hk; exact t_X6_chance_L71_B hC (rec := f_X6_chance_L71 N v1 v2 v3 v4 v5 n) ih u v7 o hf hk
set_option maxHeartbeats 4000000 in
set_option maxRecDepth 100000 in
theorem t_X6_chance_L133_B {l : Launch} {G : zG} {X : zX} {K : Option Value → zS → Prop} (hC : zC G X cX6_chance 13 RX6 (some .int)) {N : Nat} {v2 : Int32} {v3 : Int32} {v4 : Int32} {v5 : Int64} {v7 : Int32} {rec : zS → Int32 → Option (zS)} (hrec : ∀ (u : zS) (v8 : Int32) (o : zS), rec u v8 = some o → zW dscM l rm_X6_chance G X K o 154 [(0, .ref (G.1 0)), (2, .int v2), (3, .int v3), (4, .int v4), (5, .long v5), (7, .int v7)] [] → zW dscM l rm_X6_chance G X K u 133 [(0, .ref (G.1 0)), (2, .int v2), (3, .int v3), (4, .int v4), (5, .long v5), (7, .int v7), (8, .int v8)] []) : ∀ (u : zS) (v8 : Int32) (o : zS), f_X6_chance_L133_B N v2 v3 v4 v5 v7 rec u v8 = some o → zW dscM l rm_X6_chance G X K o 154 [(0, .ref (G.1 0)), (2, .int v2), (3, .int v3), (4, .int v4), (5, .long v5), (7, .int v7)] [] → zW dscM l rm_X6_chance G X K u 133 [(0, .ref (G.1 0)), (2, .int v2), (3, .int v3), (4, .int v4), (5, .long v5), (7, .int v7), (8, .int v8)] [] := by
  intro u v8 o hf hk
  unfold f_X6_chance_L133_B at hf
  refine r_iload hC dX6_chance_133 6 rfl ?_
  refine r_bipush (v := 8) hC dX6_chance_135 (by decide) ?_
  refine r_icmp_ge (tgt := 154) hC dX6_chance_137 (by decide) (fun c18 => ?_) (fun c18 => ?_)
  · have hf := ite_t c18 hf
    have hf := Option.some.inj hf
    subst hf
    refine r_loc [0, 1, 2, 3, 4, 5] rfl ?_
    exact hk
  · have hf := ite_f c18 hf
    refine r_aload_n hC dX6_chance_140 0 rfl ?_
    refine r_getr hC fd_RX6_44 dM_0 rfl dX6_chance_141 ?_
    refine r_iload hC dX6_chance_144 6 rfl ?_
    refine r_lconst (v := 0) hC dX6_chance_146 (by decide) ?_
    obtain ⟨g19, hf⟩ := og_in hf
    refine r_last hC dM_12 g19 dX6_chance_147 ?_
    refine r_tops (fun u20 eu20 => ?_)
    have hf := olet_at eu20 hf
    refine r_iinc (v := 1) (lv' := [(8, .int (v8 + 1)), (0, .ref (G.1 0)), (2, .int v2), (3, .int v3), (4, .int v4), (5, .long v5), (7, .int v7)]) hC dX6_chance_148 6 rfl (by decide) (by decide) rfl ?_
    refine r_goto (tgt := 133) hC dX6_chance_151 (by decide) ?_
    refine r_loc [1, 2, 3, 4, 5, 6, 0] rfl ?_
    exact hrec u20 (v8 + 1) o hf hk
set_option maxHeartbeats 4000000 in
set_option maxRecDepth 100000 in
theorem t_X6_chance_L133 {l : Launch} {G : zG} {X : zX} {K : Option Value → zS → Prop} (hC : zC G X cX6_chance 13 RX6 (some .int)) {N : Nat} {v2 : Int32} {v3 : Int32} {v4 : Int32} {v5 : Int64} {v7 : Int32} : ∀ (n : Nat) (u : zS) (v8 : Int32) (o : zS), f_X6_chance_L133 N v2 v3 v4 v5 v7 n u v8 = some o → zW dscM l rm_X6_chance G X K o 154 [(0, .ref (G.1 0)), (2, .int v2), (3, .int v3), (4, .int v4), (5, .long v5), (7, .int v7)] [] → zW dscM l rm_X6_chance G X K u 133 [(0, .ref (G.1 0)), (2, .int v2), (3, .int v3), (4, .int v4), (5, .long v5), (7, .int v7), (8, .int v8)] [] := by
  intro n
  induction n with
  | zero => intro u v8 o hf; cases hf
  | succ n ih => intro u v8 o hf hk; exact t_X6_chance_L133_B hC (rec := f_X6_chance_L133 N v2 v3 v4 v5 v7 n) ih u v8 o hf hk
set_option maxHeartbeats 4000000 in
set_option maxRecDepth 100000 in
theorem t_X6_chance_L167_B {l : Launch} {G : zG} {X : zX} {K : Option Value → zS → Prop} (hC : zC G X cX6_chance 13 RX6 (some .int)) {N : Nat} {v2 : Int32} {v3 : Int32} {v4 : Int32} {v5 : Int64} {v7 : Int32} {v8 : Int32} {rec : zS → Int32 → Option (zS)} (hrec : ∀ (u : zS) (v9 : Int32) (o : zS), rec u v9 = some o → zW dscM l rm_X6_chance G X K o 207 [(0, .ref (G.1 0)), (2, .int v2), (3, .int v3), (4, .int v4), (5, .long v5), (7, .int v7), (8, .int v8)] [] → zW dscM l rm_X6_chance G X K u 167 [(0, .ref (G.1 0)), (2, .int v2), (3, .int v3), (4, .int v4), (5, .long v5), (7, .int v7), (8, .int v8), (9, .int v9)] []) : ∀ (u : zS) (v9 : Int32) (o : zS), f_X6_chance_L167_B N v2 v3 v4 v5 v7 v8 rec u v9 = some o → zW dscM l rm_X6_chance G X K o 207 [(0, .ref (G.1 0)), (2, .int v2), (3, .int v3), (4, .int v4), (5, .long v5), (7, .int v7), (8, .int v8)] [] → zW dscM l rm_X6_chance G X K u 167 [(0, .ref (G.1 0)), (2, .int v2), (3, .int v3), (4, .int v4), (5, .long v5), (7, .int v7), (8, .int v8), (9, .int v9)] [] := by
  intro u v9 o hf hk
  unfold f_X6_chance_L167_B at hf
  refine r_iload hC dX6_chance_167 7 rfl ?_
  refine r_aload_n hC dX6_chance_169 0 rfl ?_
  refine r_getr hC fd_RX6_7 dM_0 rfl dX6_chance_170 ?_
  refine r_iconst (v := 1) hC dX6_chance_173 (by decide) ?_
  refine r_ialdK (j := 1) hC dM_1 (inK (by decide)) dX6_chance_174 ?_
  refine r_icmp_ge (tgt := 207) hC dX6_chance_175 (by decide) (fun c23 => ?_) (fun c23 => ?_)
  · have hf := ite_t c23 hf
    have hf := Option.some.inj hf
    subst hf
    refine r_loc [0, 1, 2, 3, 4, 5, 6] rfl ?_
    exact hk
  · have hf := ite_f c23 hf
    refine r_aload_n hC dX6_chance_178 0 rfl ?_
    refine r_getr hC fd_RX6_44 dM_0 rfl dX6_chance_179 ?_
    refine r_aload_n hC dX6_chance_182 0 rfl ?_
    refine r_iload hC dX6_chance_183 7 rfl ?_
    refine r_iload hC dX6_chance_185 6 rfl ?_
    obtain ⟨r24, er24, hf⟩ := ob_some hf
    refine r_cvi (As := [.int v9, .int v8]) (rest := [.ref (G.1 12)]) hC (c_X6_leadsOf er24) yv_X6_leadsOf ml_RX6_67 dM_0 ⟨by decide, by decide, rfl, rfl⟩ rfl rfl (Nat.le_of_ble_eq_true rfl) dX6_chance_187 ?_
    refine r_dup2 hC dX6_chance_190 rfl rfl ?_
    obtain ⟨g25, hf⟩ := og_in hf
    refine r_lald hC dM_12 g25 dX6_chance_191 ?_
    refine r_aload_n hC dX6_chance_192 0 rfl ?_
    refine r_getr hC fd_RX6_41 dM_0 rfl dX6_chance_193 ?_
    refine r_iload hC dX6_chance_196 6 rfl ?_
    obtain ⟨g26, hf⟩ := og_in hf
    refine r_lald hC dM_11 g26 dX6_chance_198 ?_
    refine r_ladd hC dX6_chance_199 ?_
    obtain ⟨g27, hf⟩ := og_in hf
    refine r_last hC dM_12 g27 dX6_chance_200 ?_
    refine r_tops (fun u28 eu28 => ?_)
    have hf := olet_at eu28 hf
    refine r_iinc (v := 1) (lv' := [(9, .int (v9 + 1)), (0, .ref (G.1 0)), (2, .int v2), (3, .int v3), (4, .int v4), (5, .long v5), (7, .int v7), (8, .int v8)]) hC dX6_chance_201 7 rfl (by decide) (by decide) rfl ?_
    refine r_goto (tgt := 167) hC dX6_chance_204 (by decide) ?_
    refine r_loc [1, 2, 3, 4, 5, 6, 7, 0] rfl ?_
    exact hrec u28 (v9 + 1) o hf hk
set_option maxHeartbeats 4000000 in
set_option maxRecDepth 100000 in
theorem t_X6_chance_L167 {l : Launch} {G : zG} {X : zX} {K : Option Value → zS → Prop} (hC : zC G X cX6_chance 13 RX6 (some .int)) {N : Nat} {v2 : Int32} {v3 : Int32} {v4 : Int32} {v5 : Int64} {v7 : Int32} {v8 : Int32} : ∀ (n : Nat) (u : zS) (v9 : Int32) (o : zS), f_X6_chance_L167 N v2 v3 v4 v5 v7 v8 n u v9 = some o → zW dscM l rm_X6_chance G X K o 207 [(0, .ref (G.1 0)), (2, .int v2), (3, .int v3), (4, .int v4), (5, .long v5), (7, .int v7), (8, .int v8)] [] → zW dscM l rm_X6_chance G X K u 167 [(0, .ref (G.1 0)), (2, .int v2), (3, .int v3), (4, .int v4), (5, .long v5), (7, .int v7), (8, .int v8), (9, .int v9)] [] := by
  intro n
  induction n with
  | zero => intro u v9 o hf; cases hf
  | succ n ih => intro u v9 o hf hk; exact t_X6_chance_L167_B hC (rec := f_X6_chance_L167 N v2 v3 v4 v5 v7 v8 n) ih u v9 o hf hk
set_option maxHeartbeats 4000000 in
set_option maxRecDepth 100000 in
theorem t_X6_chance_L157_B {l : Launch} {G : zG} {X : zX} {K : Option Value → zS → Prop} (hC : zC G X cX6_chance 13 RX6 (some .int)) {N : Nat} {v2 : Int32} {v3 : Int32} {v4 : Int32} {v5 : Int64} {v7 : Int32} {rec : zS → Int32 → Option (zS)} (hrec : ∀ (u : zS) (v8 : Int32) (o : zS), rec u v8 = some o → zW dscM l rm_X6_chance G X K o 213 [(0, .ref (G.1 0)), (2, .int v2), (3, .int v3), (4, .int v4), (5, .long v5), (7, .int v7)] [] → zW dscM l rm_X6_chance G X K u 157 [(0, .ref (G.1 0)), (2, .int v2), (3, .int v3), (4, .int v4), (5, .long v5), (7, .int v7), (8, .int v8)] []) : ∀ (u : zS) (v8 : Int32) (o : zS), f_X6_chance_L157_B N v2 v3 v4 v5 v7 rec u v8 = some o → zW dscM l rm_X6_chance G X K o 213 [(0, .ref (G.1 0)), (2, .int v2), (3, .int v3), (4, .int v4), (5, .long v5), (7, .int v7)] [] → zW dscM l rm_X6_chance G X K u 157 [(0, .ref (G.1 0)), (2, .int v2), (3, .int v3), (4, .int v4), (5, .long v5), (7, .int v7), (8, .int v8)] [] := by
  intro u v8 o hf hk
  unfold f_X6_chance_L157_B at hf
  refine r_iload hC dX6_chance_157 6 rfl ?_
  refine r_bipush (v := 8) hC dX6_chance_159 (by decide) ?_
  refine r_icmp_ge (tgt := 213) hC dX6_chance_161 (by decide) (fun c22 => ?_) (fun c22 => ?_)
  · have hf := ite_t c22 hf
    have hf := Option.some.inj hf
    subst hf
    refine r_loc [0, 1, 2, 3, 4, 5] rfl ?_
    exact hk
  · have hf := ite_f c22 hf
    refine r_iconst (v := 0) hC dX6_chance_164 (by decide) ?_
    refine r_istore (lv' := [(9, .int 0), (0, .ref (G.1 0)), (2, .int v2), (3, .int v3), (4, .int v4), (5, .long v5), (7, .int v7), (8, .int v8)]) hC dX6_chance_165 (by decide) rfl ?_
    refine r_loc [1, 2, 3, 4, 5, 6, 7, 0] rfl ?_
    obtain ⟨q29, eq29, hf⟩ := ob_some hf
    refine t_X6_chance_L167 hC N u 0 q29 eq29 ?_
    refine r_iinc (v := 1) (lv' := [(8, .int (v8 + 1)), (0, .ref (G.1 0)), (2, .int v2), (3, .int v3), (4, .int v4), (5, .long v5), (7, .int v7)]) hC dX6_chance_207 6 rfl (by decide) (by decide) rfl ?_
    refine r_goto (tgt := 157) hC dX6_chance_210 (by decide) ?_
    refine r_loc [1, 2, 3, 4, 5, 6, 0] rfl ?_
    exact hrec q29 (v8 + 1) o hf hk
set_option maxHeartbeats 4000000 in
set_option maxRecDepth 100000 in
theorem t_X6_chance_L157 {l : Launch} {G : zG} {X : zX} {K : Option Value → zS → Prop} (hC : zC G X cX6_chance 13 RX6 (some .int)) {N : Nat} {v2 : Int32} {v3 : Int32} {v4 : Int32} {v5 : Int64} {v7 : Int32} : ∀ (n : Nat) (u : zS) (v8 : Int32) (o : zS), f_X6_chance_L157 N v2 v3 v4 v5 v7 n u v8 = some o → zW dscM l rm_X6_chance G X K o 213 [(0, .ref (G.1 0)), (2, .int v2), (3, .int v3), (4, .int v4), (5, .long v5), (7, .int v7)] [] → zW dscM l rm_X6_chance G X K u 157 [(0, .ref (G.1 0)), (2, .int v2), (3, .int v3), (4, .int v4), (5, .long v5), (7, .int v7), (8, .int v8)] [] := by
  intro n
  induction n with
  | zero => intro u v8 o hf; cases hf
  | succ n ih => intro u v8 o hf hk; exact t_X6_chance_L157_B hC (rec := f_X6_chance_L157 N v2 v3 v4 v5 v7 n) ih u v8 o hf hk
set_option maxHeartbeats 4000000 in
set_option maxRecDepth 100000 in
theorem t_X6_chance_L216_B {l : Launch} {G : zG} {X : zX} {K : Option Value → zS → Prop} (hC : zC G X cX6_chance 13 RX6 (some .int)) {N : Nat} {v2 : Int32} {v3 : Int32} {v4 : Int32} {v5 : Int64} {v7 : Int32} {rec : zS → Int32 → Option (zS)} (hrec : ∀ (u : zS) (v8 : Int32) (o : zS), rec u v8 = some o → zW dscM l rm_X6_chance G X K o 243 [(0, .ref (G.1 0)), (2, .int v2), (3, .int v3), (4, .int v4), (5, .long v5), (7, .int v7)] [] → zW dscM l rm_X6_chance G X K u 216 [(0, .ref (G.1 0)), (2, .int v2), (3, .int v3), (4, .int v4), (5, .long v5), (7, .int v7), (8, .int v8)] []) : ∀ (u : zS) (v8 : Int32) (o : zS), f_X6_chance_L216_B N v2 v3 v4 v5 v7 rec u v8 = some o → zW dscM l rm_X6_chance G X K o 243 [(0, .ref (G.1 0)), (2, .int v2), (3, .int v3), (4, .int v4), (5, .long v5), (7, .int v7)] [] → zW dscM l rm_X6_chance G X K u 216 [(0, .ref (G.1 0)), (2, .int v2), (3, .int v3), (4, .int v4), (5, .long v5), (7, .int v7), (8, .int v8)] [] := by
  intro u v8 o hf hk
  unfold f_X6_chance_L216_B at hf
  refine r_iload hC dX6_chance_216 6 rfl ?_
  refine r_bipush (v := 8) hC dX6_chance_218 (by decide) ?_
  refine r_icmp_ge (tgt := 243) hC dX6_chance_220 (by decide) (fun c31 => ?_) (fun c31 => ?_)
  · have hf := ite_t c31 hf
    have hf := Option.some.inj hf
    subst hf
    refine r_loc [0, 1, 2, 3, 4, 5] rfl ?_
    exact hk
  · have hf := ite_f c31 hf
    refine r_aload_n hC dX6_chance_223 0 rfl ?_
    refine r_getr hC fd_RX6_41 dM_0 rfl dX6_chance_224 ?_
    refine r_iload hC dX6_chance_227 6 rfl ?_
    refine r_aload_n hC dX6_chance_229 0 rfl ?_
    refine r_getr hC fd_RX6_44 dM_0 rfl dX6_chance_230 ?_
    refine r_iload hC dX6_chance_233 6 rfl ?_
    obtain ⟨g32, hf⟩ := og_in hf
    refine r_lald hC dM_12 g32 dX6_chance_235 ?_
    obtain ⟨g33, hf⟩ := og_in hf
    refine r_last hC dM_11 g33 dX6_chance_236 ?_
    refine r_tops (fun u34 eu34 => ?_)
    have hf := olet_at eu34 hf
    refine r_iinc (v := 1) (lv' := [(8, .int (v8 + 1)), (0, .ref (G.1 0)), (2, .int v2), (3, .int v3), (4, .int v4), (5, .long v5), (7, .int v7)]) hC dX6_chance_237 6 rfl (by decide) (by decide) rfl ?_
    refine r_goto (tgt := 216) hC dX6_chance_240 (by decide) ?_
    refine r_loc [1, 2, 3, 4, 5, 6, 0] rfl ?_
    exact hrec u34 (v8 + 1) o hf hk
set_option maxHeartbeats 4000000 in
set_option maxRecDepth 100000 in
theorem t_X6_chance_L216 {l : Launch} {G : zG} {X : zX} {K : Option Value → zS → Prop} (hC : zC G X cX6_chance 13 RX6 (some .int)) {N : Nat} {v2 : Int32} {v3 : Int32} {v4 : Int32} {v5 : Int64} {v7 : Int32} : ∀ (n : Nat) (u : zS) (v8 : Int32) (o : zS), f_X6_chance_L216 N v2 v3 v4 v5 v7 n u v8 = some o → zW dscM l rm_X6_chance G X K o 243 [(0, .ref (G.1 0)), (2, .int v2), (3, .int v3), (4, .int v4), (5, .long v5), (7, .int v7)] [] → zW dscM l rm_X6_chance G X K u 216 [(0, .ref (G.1 0)), (2, .int v2), (3, .int v3), (4, .int v4), (5, .long v5), (7, .int v7), (8, .int v8)] [] := by
  intro n
  induction n with
  | zero => intro u v8 o hf; cases hf
  | succ n ih => intro u v8 o hf hk; exact t_X6_chance_L216_B hC (rec := f_X6_chance_L216 N v2 v3 v4 v5 v7 n) ih u v8 o hf hk
set_option maxHeartbeats 4000000 in
set_option maxRecDepth 100000 in
theorem t_X6_chance_L112_B {l : Launch} {G : zG} {X : zX} {K : Option Value → zS → Prop} (hC : zC G X cX6_chance 13 RX6 (some .int)) {N : Nat} {v2 : Int32} {v3 : Int32} {v4 : Int32} {rec : zS → Int64 → Int32 → Option (Int64 × zS)} (hrec : ∀ (u : zS) (v5 : Int64) (v7 : Int32) (o : Int64 × zS), rec u v5 v7 = some o → zW dscM l rm_X6_chance G X K o.2 249 [(0, .ref (G.1 0)), (2, .int v2), (4, .int v4), (5, .long o.1)] [] → zW dscM l rm_X6_chance G X K u 112 [(0, .ref (G.1 0)), (2, .int v2), (3, .int v3), (4, .int v4), (5, .long v5), (7, .int v7)] []) : ∀ (u : zS) (v5 : Int64) (v7 : Int32) (o : Int64 × zS), f_X6_chance_L112_B N v2 v3 v4 rec u v5 v7 = some o → zW dscM l rm_X6_chance G X K o.2 249 [(0, .ref (G.1 0)), (2, .int v2), (4, .int v4), (5, .long o.1)] [] → zW dscM l rm_X6_chance G X K u 112 [(0, .ref (G.1 0)), (2, .int v2), (3, .int v3), (4, .int v4), (5, .long v5), (7, .int v7)] [] := by
  intro u v5 v7 o hf hk
  unfold f_X6_chance_L112_B at hf
  refine r_iload hC dX6_chance_112 5 rfl ?_
  refine r_iload_n hC dX6_chance_114 2 rfl ?_
  refine r_icmp_ge (tgt := 249) hC dX6_chance_115 (by decide) (fun c16 => ?_) (fun c16 => ?_)
  · have hf := ite_t c16 hf
    have hf := Option.some.inj hf
    subst hf
    refine r_loc [0, 1, 3, 4] rfl ?_
    exact hk
  · have hf := ite_f c16 hf
    refine r_lload hC dX6_chance_118 4 rfl ?_
    refine r_aload_n hC dX6_chance_120 0 rfl ?_
    refine r_getr hC fd_RX6_7 dM_0 rfl dX6_chance_121 ?_
    refine r_iconst (v := 1) hC dX6_chance_124 (by decide) ?_
    refine r_ialdK (j := 1) hC dM_1 (inK (by decide)) dX6_chance_125 ?_
    refine r_i2l hC dX6_chance_126 ?_
    refine r_lmul hC dX6_chance_127 ?_
    refine r_topl (fun w17 ew17 => ?_)
    have hf := olet_at ew17 hf
    refine r_lstore (lv' := [(5, .long w17), (0, .ref (G.1 0)), (2, .int v2), (3, .int v3), (4, .int v4), (7, .int v7)]) hC dX6_chance_128 (by decide) rfl ?_
    refine r_iconst (v := 0) hC dX6_chance_130 (by decide) ?_
    refine r_istore (lv' := [(8, .int 0), (5, .long w17), (0, .ref (G.1 0)), (2, .int v2), (3, .int v3), (4, .int v4), (7, .int v7)]) hC dX6_chance_131 (by decide) rfl ?_
    refine r_loc [2, 3, 4, 5, 1, 6, 0] rfl ?_
    obtain ⟨q21, eq21, hf⟩ := ob_some hf
    refine t_X6_chance_L133 hC N u 0 q21 eq21 ?_
    refine r_iconst (v := 0) hC dX6_chance_154 (by decide) ?_
    refine r_istore (lv' := [(8, .int 0), (0, .ref (G.1 0)), (2, .int v2), (3, .int v3), (4, .int v4), (5, .long w17), (7, .int v7)]) hC dX6_chance_155 (by decide) rfl ?_
    refine r_loc [1, 2, 3, 4, 5, 6, 0] rfl ?_
    obtain ⟨q30, eq30, hf⟩ := ob_some hf
    refine t_X6_chance_L157 hC N q21 0 q30 eq30 ?_
    refine r_iconst (v := 0) hC dX6_chance_213 (by decide) ?_
    refine r_istore (lv' := [(8, .int 0), (0, .ref (G.1 0)), (2, .int v2), (3, .int v3), (4, .int v4), (5, .long w17), (7, .int v7)]) hC dX6_chance_214 (by decide) rfl ?_
    refine r_loc [1, 2, 3, 4, 5, 6, 0] rfl ?_
    obtain ⟨q35, eq35, hf⟩ := ob_some hf
    refine t_X6_chance_L216 hC N q30 0 q35 eq35 ?_
    refine r_iinc (v := 1) (lv' := [(7, .int (v7 + 1)), (0, .ref (G.1 0)), (2, .int v2), (3, .int v3), (4, .int v4), (5, .long w17)]) hC dX6_chance_243 5 rfl (by decide) (by decide) rfl ?_
    refine r_goto (tgt := 112) hC dX6_chance_246 (by decide) ?_
    refine r_loc [1, 2, 3, 4, 5, 0] rfl ?_
    exact hrec q35 w17 (v7 + 1) o hf hk
set_option maxHeartbeats 4000000 in
set_option maxRecDepth 100000 in
theorem t_X6_chance_L112 {l : Launch} {G : zG} {X : zX} {K : Option Value → zS → Prop} (hC : zC G X cX6_chance 13 RX6 (some .int)) {N : Nat} {v2 : Int32} {v3 : Int32} {v4 : Int32} : ∀ (n : Nat) (u : zS) (v5 : Int64) (v7 : Int32) (o : Int64 × zS), f_X6_chance_L112 N v2 v3 v4 n u v5 v7 = some o → zW dscM l rm_X6_chance G X K o.2 249 [(0, .ref (G.1 0)), (2, .int v2), (4, .int v4), (5, .long o.1)] [] → zW dscM l rm_X6_chance G X K u 112 [(0, .ref (G.1 0)), (2, .int v2), (3, .int v3), (4, .int v4), (5, .long v5), (7, .int v7)] [] := by
  intro n
  induction n with
  | zero => intro u v5 v7 o hf; cases hf
  | succ n ih => intro u v5 v7 o hf hk; exact t_X6_chance_L112_B hC (rec := f_X6_chance_L112 N v2 v3 v4 n) ih u v5 v7 o hf hk
set_option maxHeartbeats 4000000 in
set_option maxRecDepth 100000 in
theorem t_X6_chance_L261_B {l : Launch} {G : zG} {X : zX} {K : Option Value → zS → Prop} (hC : zC G X cX6_chance 13 RX6 (some .int)) {N : Nat} {u : zS} {v2 : Int32} {v4 : Int32} {v5 : Int64} {rec : Int64 → Int64 → Option (Int64)} (hrec : ∀ (v7 : Int64) (v9 : Int64) (o : Int64), rec v7 v9 = some o → zW dscM l rm_X6_chance G X K u 286 [(0, .ref (G.1 0)), (2, .int v2), (4, .int v4), (5, .long v5), (7, .long o)] [] → zW dscM l rm_X6_chance G X K u 261 [(0, .ref (G.1 0)), (2, .int v2), (4, .int v4), (5, .long v5), (7, .long v7), (9, .long v9)] []) : ∀ (v7 : Int64) (v9 : Int64) (o : Int64), f_X6_chance_L261_B N u v2 v4 v5 rec v7 v9 = some o → zW dscM l rm_X6_chance G X K u 286 [(0, .ref (G.1 0)), (2, .int v2), (4, .int v4), (5, .long v5), (7, .long o)] [] → zW dscM l rm_X6_chance G X K u 261 [(0, .ref (G.1 0)), (2, .int v2), (4, .int v4), (5, .long v5), (7, .long v7), (9, .long v9)] [] := by
  intro v7 v9 o hf hk
  unfold f_X6_chance_L261_B at hf
  refine r_lload hC dX6_chance_261 5 rfl ?_
  refine r_lconst (v := 0) hC dX6_chance_263 (by decide) ?_
  refine r_lcmp hC dX6_chance_264 ?_
  refine r_if_eq (tgt := 286) hC dX6_chance_265 (by decide) (fun c39 => ?_) (fun c39 => ?_)
  · have hf := ite_t c39 hf
    have hf := Option.some.inj hf
    subst hf
    refine r_loc [0, 1, 2, 3, 4] rfl ?_
    exact hk
  · have hf := ite_f c39 hf
    refine r_lload hC dX6_chance_268 4 rfl ?_
    refine r_lload hC dX6_chance_270 5 rfl ?_
    obtain ⟨g40, hf⟩ := og_nl hf
    refine r_lrem (x := v7) (y := v9) hC dX6_chance_272 g40 ?_
    refine r_lstore (lv' := [(11, .long (v7 - v7 / v9 * v9)), (0, .ref (G.1 0)), (2, .int v2), (4, .int v4), (5, .long v5), (7, .long v7), (9, .long v9)]) hC dX6_chance_273 (by decide) rfl ?_
    refine r_lload hC dX6_chance_275 6 rfl ?_
    refine r_lstore (lv' := [(7, .long v9), (11, .long (v7 - v7 / v9 * v9)), (0, .ref (G.1 0)), (2, .int v2), (4, .int v4), (5, .long v5), (9, .long v9)]) hC dX6_chance_277 (by decide) rfl ?_
    refine r_lload hC dX6_chance_279 1 rfl ?_
    refine r_topl (fun w41 ew41 => ?_)
    have hf := olet_at ew41 hf
    refine r_lstore (lv' := [(9, .long w41), (7, .long v9), (11, .long (v7 - v7 / v9 * v9)), (0, .ref (G.1 0)), (2, .int v2), (4, .int v4), (5, .long v5)]) hC dX6_chance_281 (by decide) rfl ?_
    refine r_goto (tgt := 261) hC dX6_chance_283 (by decide) ?_
    refine r_loc [3, 4, 5, 6, 1, 0] rfl ?_
    exact hrec v9 w41 o hf hk
set_option maxHeartbeats 4000000 in
set_option maxRecDepth 100000 in
theorem t_X6_chance_L261 {l : Launch} {G : zG} {X : zX} {K : Option Value → zS → Prop} (hC : zC G X cX6_chance 13 RX6 (some .int)) {N : Nat} {u : zS} {v2 : Int32} {v4 : Int32} {v5 : Int64} : ∀ (n : Nat) (v7 : Int64) (v9 : Int64) (o : Int64), f_X6_chance_L261 N u v2 v4 v5 n v7 v9 = some o → zW dscM l rm_X6_chance G X K u 286 [(0, .ref (G.1 0)), (2, .int v2), (4, .int v4), (5, .long v5), (7, .long o)] [] → zW dscM l rm_X6_chance G X K u 261 [(0, .ref (G.1 0)), (2, .int v2), (4, .int v4), (5, .long v5), (7, .long v7), (9, .long v9)] [] := by
  intro n
  induction n with
  | zero => intro v7 v9 o hf; cases hf
  | succ n ih => intro v7 v9 o hf hk; exact t_X6_chance_L261_B hC (rec := f_X6_chance_L261 N u v2 v4 v5 n) ih v7 v9 o hf hk
set_option maxHeartbeats 4000000 in
set_option maxRecDepth 100000 in
theorem t_X6_chance {l : Launch} {G : zG} {X : zX} {K : Option Value → zS → Prop} (hC : zC G X cX6_chance 13 RX6 (some .int)) {N : Nat} {u : zS} {v1 : Int32} {v2 : Int32} {v3 : Int32} {v4 : Int32} (o : Int32 × zS) (hf : f_X6_chance N u v1 v2 v3 v4 = some o) (hk : K (some (.int o.1)) o.2) : zW dscM l rm_X6_chance G X K u 0 [(0, .ref (G.1 0)), (1, .int v1), (2, .int v2), (3, .int v3), (4, .int v4)] [] := by
  unfold f_X6_chance at hf
  refine r_aload_n hC dX6_chance_0 0 rfl ?_
  refine r_iload_n hC dX6_chance_1 1 rfl ?_
  refine r_cvi (As := [.int v1]) (rest := []) hC c_X6_isAngel yv_X6_isAngel ml_RX6_100 dM_0 ⟨by decide, by decide, rfl, rfl⟩ rfl rfl (Nat.le_of_ble_eq_true rfl) dX6_chance_2 ?_
  refine r_if_eq (tgt := 38) hC dX6_chance_5 (by decide) (fun c1 => ?_) (fun c1 => ?_)
  · have hf := ite_t c1 hf
    refine r_iconst (v := (-1)) hC dX6_chance_38 (by decide) ?_
    have hf := Option.some.inj hf
    subst hf
    exact r_iret hC dX6_chance_39 hk
  · have hf := ite_f c1 hf
    refine r_iload_n hC dX6_chance_8 2 rfl ?_
    refine r_csi (As := [.int v2]) (rest := []) hC c_X6_isPlace ys_X6_isPlace ml_RX6_74 ⟨by decide, by decide, rfl, rfl⟩ rfl rfl (Nat.le_of_ble_eq_true rfl) dX6_chance_9 ?_
    refine r_if_eq (tgt := 38) hC dX6_chance_12 (by decide) (fun c2 => ?_) (fun c2 => ?_)
    · have hf := ite_t c2 hf
      refine r_iconst (v := (-1)) hC dX6_chance_38 (by decide) ?_
      have hf := Option.some.inj hf
      subst hf
      exact r_iret hC dX6_chance_39 hk
    · have hf := ite_f c2 hf
      refine r_iload_n hC dX6_chance_15 3 rfl ?_
      refine r_i2l hC dX6_chance_16 ?_
      refine r_lconst (v := 0) hC dX6_chance_17 (by decide) ?_
      refine r_ldc2 hC cn_RX6_197 dX6_chance_18 ?_
      refine r_csi (As := [.long (Int32.toInt64 v3), .long 0, .long 8]) (rest := []) hC c_X6_in ys_X6_in ml_RX6_52 ⟨by decide, by decide, rfl, rfl⟩ rfl rfl (Nat.le_of_ble_eq_true rfl) dX6_chance_21 ?_
      refine r_if_eq (tgt := 38) hC dX6_chance_24 (by decide) (fun c3 => ?_) (fun c3 => ?_)
      · have hf := ite_t c3 hf
        refine r_iconst (v := (-1)) hC dX6_chance_38 (by decide) ?_
        have hf := Option.some.inj hf
        subst hf
        exact r_iret hC dX6_chance_39 hk
      · have hf := ite_f c3 hf
        refine r_iload hC dX6_chance_27 4 rfl ?_
        refine r_i2l hC dX6_chance_29 ?_
        refine r_lconst (v := 0) hC dX6_chance_30 (by decide) ?_
        refine r_lconst (v := 1) hC dX6_chance_31 (by decide) ?_
        refine r_csi (As := [.long (Int32.toInt64 v4), .long 0, .long 1]) (rest := []) hC c_X6_in ys_X6_in ml_RX6_52 ⟨by decide, by decide, rfl, rfl⟩ rfl rfl (Nat.le_of_ble_eq_true rfl) dX6_chance_32 ?_
        refine r_if_ne (tgt := 40) hC dX6_chance_35 (by decide) (fun c4 => ?_) (fun c4 => ?_)
        · have hf := ite_f c4 hf
          refine r_aload_n hC dX6_chance_40 0 rfl ?_
          refine r_getr hC fd_RX6_7 dM_0 rfl dX6_chance_41 ?_
          refine r_iconst (v := 5) hC dX6_chance_44 (by decide) ?_
          refine r_iload_n hC dX6_chance_45 1 rfl ?_
          refine r_iadd hC dX6_chance_46 ?_
          obtain ⟨g5, hf⟩ := og_in hf
          refine r_iald hC dM_1 g5 dX6_chance_47 ?_
          refine r_bipush (v := (-4)) hC dX6_chance_48 (by decide) ?_
          refine r_icmp_eq (tgt := 62) hC dX6_chance_50 (by decide) (fun c6 => ?_) (fun c6 => ?_)
          · have hf := ite_t c6 hf
            refine r_bipush (v := (-2)) hC dX6_chance_62 (by decide) ?_
            have hf := Option.some.inj hf
            subst hf
            exact r_iret hC dX6_chance_64 hk
          · have hf := ite_f c6 hf
            refine r_aload_n hC dX6_chance_53 0 rfl ?_
            refine r_getr hC fd_RX6_7 dM_0 rfl dX6_chance_54 ?_
            refine r_iconst (v := 1) hC dX6_chance_57 (by decide) ?_
            refine r_ialdK (j := 1) hC dM_1 (inK (by decide)) dX6_chance_58 ?_
            refine r_if_ne (tgt := 65) hC dX6_chance_59 (by decide) (fun c7 => ?_) (fun c7 => ?_)
            · have hf := ite_f c7 hf
              refine r_lconst (v := 1) hC dX6_chance_65 (by decide) ?_
              refine r_lstore (lv' := [(5, .long 1), (0, .ref (G.1 0)), (1, .int v1), (2, .int v2), (3, .int v3), (4, .int v4)]) hC dX6_chance_66 (by decide) rfl ?_
              refine r_iconst (v := 0) hC dX6_chance_68 (by decide) ?_
              refine r_istore (lv' := [(7, .int 0), (5, .long 1), (0, .ref (G.1 0)), (1, .int v1), (2, .int v2), (3, .int v3), (4, .int v4)]) hC dX6_chance_69 (by decide) rfl ?_
              refine r_loc [2, 3, 4, 5, 6, 1, 0] rfl ?_
              obtain ⟨q15, eq15, hf⟩ := ob_some hf
              refine t_X6_chance_L71 hC N u 0 q15 eq15 ?_
              refine r_iconst (v := 0) hC dX6_chance_109 (by decide) ?_
              refine r_istore (lv' := [(7, .int 0), (0, .ref (G.1 0)), (2, .int v2), (3, .int v3), (4, .int v4), (5, .long 1)]) hC dX6_chance_110 (by decide) rfl ?_
              refine r_loc [1, 2, 3, 4, 5, 0] rfl ?_
              obtain ⟨q36, eq36, hf⟩ := ob_some hf
              refine t_X6_chance_L112 hC N q15 1 0 q36 eq36 ?_
              refine r_aload_n hC dX6_chance_249 0 rfl ?_
              refine r_getr hC fd_RX6_41 dM_0 rfl dX6_chance_250 ?_
              refine r_iload_n hC dX6_chance_253 1 rfl ?_
              obtain ⟨g37, hf⟩ := og_in hf
              refine r_lald hC dM_11 g37 dX6_chance_254 ?_
              refine r_topl (fun w38 ew38 => ?_)
              have hf := olet_at ew38 hf
              refine r_lstore (lv' := [(7, .long w38), (0, .ref (G.1 0)), (2, .int v2), (4, .int v4), (5, .long q36.1)]) hC dX6_chance_255 (by decide) rfl ?_
              refine r_lload hC dX6_chance_257 4 rfl ?_
              refine r_lstore (lv' := [(9, .long q36.1), (7, .long w38), (0, .ref (G.1 0)), (2, .int v2), (4, .int v4), (5, .long q36.1)]) hC dX6_chance_259 (by decide) rfl ?_
              refine r_loc [2, 3, 4, 5, 1, 0] rfl ?_
              obtain ⟨q42, eq42, hf⟩ := ob_some hf
              refine t_X6_chance_L261 hC N w38 q36.1 q42 eq42 ?_
              refine r_iload hC dX6_chance_286 2 rfl ?_
              refine r_if_ne (tgt := 303) hC dX6_chance_288 (by decide) (fun c43 => ?_) (fun c43 => ?_)
              · have hf := ite_f c43 hf
                refine r_lload hC dX6_chance_303 3 rfl ?_
                refine r_lload hC dX6_chance_305 4 rfl ?_
                obtain ⟨g44, hf⟩ := og_nl hf
                refine r_ldiv (x := q36.1) (y := q42) hC dX6_chance_307 g44 ?_
                refine r_l2i hC dX6_chance_308 ?_
                have hf := Option.some.inj hf
                subst hf
                exact r_iret hC dX6_chance_309 hk
              · have hf := ite_t c43 hf
                refine r_aload_n hC dX6_chance_291 0 rfl ?_
                refine r_getr hC fd_RX6_41 dM_0 rfl dX6_chance_292 ?_
                refine r_iload_n hC dX6_chance_295 1 rfl ?_
                obtain ⟨g45, hf⟩ := og_in hf
                refine r_lald hC dM_11 g45 dX6_chance_296 ?_
                refine r_lload hC dX6_chance_297 4 rfl ?_
                obtain ⟨g46, hf⟩ := og_nl hf
                refine r_ldiv (x := (q36.2.2 11 (Int32.toNatClampNeg v2))) (y := q42) hC dX6_chance_299 g46 ?_
                refine r_goto (tgt := 308) hC dX6_chance_300 (by decide) ?_
                refine r_l2i hC dX6_chance_308 ?_
                have hf := Option.some.inj hf
                subst hf
                exact r_iret hC dX6_chance_309 hk
            · have hf := ite_t c7 hf
              refine r_bipush (v := (-2)) hC dX6_chance_62 (by decide) ?_
              have hf := Option.some.inj hf
              subst hf
              exact r_iret hC dX6_chance_64 hk
        · have hf := ite_t c4 hf
          refine r_iconst (v := (-1)) hC dX6_chance_38 (by decide) ?_
          have hf := Option.some.inj hf
          subst hf
          exact r_iret hC dX6_chance_39 hk
set_option maxHeartbeats 4000000 in
set_option maxRecDepth 100000 in
theorem c_X6_chance {l : Launch} {G : zG} {N : Nat} {u : zS} {v1 : Int32} {v2 : Int32} {v3 : Int32} {v4 : Int32} {r : Int32 × zS} (hf : f_X6_chance N u v1 v2 v3 v4 = some r) : zM l dscM yX6_chance cX6_chance 13 (some .int) rm_X6_chance G [.ref (G.1 0), .int v1, .int v2, .int v3, .int v4] u (some (.int r.1)) r.2 := zM.of (by decide) (Nat.le_of_ble_eq_true rfl) (fun X hC => t_X6_chance hC r hf ⟨rfl, rfl⟩)
set_option maxHeartbeats 4000000 in
set_option maxRecDepth 100000 in
theorem t_X6_image {l : Launch} {G : zG} {X : zX} {K : Option Value → zS → Prop} (hC : zC G X cX6_image 1 RX6 (some .int)) {N : Nat} {u : zS} (o : Int32 × zS) (hf : f_X6_image N u = some o) (hk : K (some (.int o.1)) o.2) : zW dscM l rm_X6_image G X K u 0 [(0, .ref (G.1 0))] [] := by
  unfold f_X6_image at hf
  refine r_aload_n hC dX6_image_0 0 rfl ?_
  refine r_iconst (v := 0) hC dX6_image_1 (by decide) ?_
  refine r_bipush (v := 120) hC dX6_image_2 (by decide) ?_
  refine r_bipush (v := 120) hC dX6_image_4 (by decide) ?_
  obtain ⟨r1, er1, hf⟩ := ob_some hf
  refine r_cvv (As := [.int 0, .int 120, .int 120]) (rest := []) hC (c_X6_bring er1) yv_X6_bring ml_RX6_139 dM_0 ⟨by decide, by decide, rfl, rfl⟩ rfl rfl (Nat.le_of_ble_eq_true rfl) dX6_image_6 ?_
  refine r_aload_n hC dX6_image_9 0 rfl ?_
  refine r_iconst (v := 1) hC dX6_image_10 (by decide) ?_
  refine r_putz hC fp_RX6_199 rfl rfl dM_0 rfl dX6_image_11 ?_
  refine r_tops (fun u2 eu2 => ?_)
  have hf := olet_at eu2 hf
  refine r_iconst (v := 1) hC dX6_image_14 (by decide) ?_
  have hf := Option.some.inj hf
  subst hf
  exact r_iret hC dX6_image_15 hk
set_option maxHeartbeats 4000000 in
set_option maxRecDepth 100000 in
theorem c_X6_image {l : Launch} {G : zG} {N : Nat} {u : zS} {r : Int32 × zS} (hf : f_X6_image N u = some r) : zM l dscM yX6_image cX6_image 1 (some .int) rm_X6_image G [.ref (G.1 0)] u (some (.int r.1)) r.2 := zM.of (by decide) (Nat.le_of_ble_eq_true rfl) (fun X hC => t_X6_image hC r hf ⟨rfl, rfl⟩)
set_option maxHeartbeats 4000000 in
set_option maxRecDepth 100000 in
theorem t_X6_restore {l : Launch} {G : zG} {X : zX} {K : Option Value → zS → Prop} (hC : zC G X cX6_restore 1 RX6 (some .int)) {N : Nat} {u : zS} (o : Int32 × zS) (hf : f_X6_restore N u = some o) (hk : K (some (.int o.1)) o.2) : zW dscM l rm_X6_restore G X K u 0 [(0, .ref (G.1 0))] [] := by
  unfold f_X6_restore at hf
  refine r_aload_n hC dX6_restore_0 0 rfl ?_
  refine r_geti hC fd_RX6_199 dM_0 rfl dX6_restore_1 ?_
  refine r_if_ne (tgt := 10) hC dX6_restore_4 (by decide) (fun c1 => ?_) (fun c1 => ?_)
  · have hf := ite_f c1 hf
    refine r_aload_n hC dX6_restore_10 0 rfl ?_
    refine r_bipush (v := 120) hC dX6_restore_11 (by decide) ?_
    refine r_iconst (v := 0) hC dX6_restore_13 (by decide) ?_
    refine r_bipush (v := 120) hC dX6_restore_14 (by decide) ?_
    obtain ⟨r2, er2, hf⟩ := ob_some hf
    refine r_cvv (As := [.int 120, .int 0, .int 120]) (rest := []) hC (c_X6_bring er2) yv_X6_bring ml_RX6_139 dM_0 ⟨by decide, by decide, rfl, rfl⟩ rfl rfl (Nat.le_of_ble_eq_true rfl) dX6_restore_16 ?_
    refine r_iconst (v := 1) hC dX6_restore_19 (by decide) ?_
    have hf := Option.some.inj hf
    subst hf
    exact r_iret hC dX6_restore_20 hk
  · have hf := ite_t c1 hf
    refine r_bipush (v := (-4)) hC dX6_restore_7 (by decide) ?_
    have hf := Option.some.inj hf
    subst hf
    exact r_iret hC dX6_restore_9 hk
set_option maxHeartbeats 4000000 in
set_option maxRecDepth 100000 in
theorem c_X6_restore {l : Launch} {G : zG} {N : Nat} {u : zS} {r : Int32 × zS} (hf : f_X6_restore N u = some r) : zM l dscM yX6_restore cX6_restore 1 (some .int) rm_X6_restore G [.ref (G.1 0)] u (some (.int r.1)) r.2 := zM.of (by decide) (Nat.le_of_ble_eq_true rfl) (fun X hC => t_X6_restore hC r hf ⟨rfl, rfl⟩)
set_option maxHeartbeats 4000000 in
set_option maxRecDepth 100000 in
theorem t_X6_isSheet {l : Launch} {G : zG} {X : zX} {K : Option Value → zS → Prop} (hC : zC G X cX6_isSheet 1 RX6 (some .boolean)) {u : zS} {v0 : Int32} (o : Int32) (hf : f_X6_isSheet v0 = o) (hk : K (some (.int o)) u) : zW dscM l rm_X6_isSheet G X K u 0 [(0, .int v0)] [] := by
  unfold f_X6_isSheet at hf
  refine r_iload_n hC dX6_isSheet_0 0 rfl ?_
  refine r_i2l hC dX6_isSheet_1 ?_
  refine r_lconst (v := 0) hC dX6_isSheet_2 (by decide) ?_
  refine r_ldc2 hC cn_RX6_203 dX6_isSheet_3 ?_
  refine r_csi (As := [.long (Int32.toInt64 v0), .long 0, .long 3]) (rest := []) hC c_X6_in ys_X6_in ml_RX6_52 ⟨by decide, by decide, rfl, rfl⟩ rfl rfl (Nat.le_of_ble_eq_true rfl) dX6_isSheet_6 ?_
  subst hf
  exact r_zret hC (bz_X6_in (Int32.toInt64 v0) 0 3) dX6_isSheet_9 hk
set_option maxHeartbeats 4000000 in
set_option maxRecDepth 100000 in
theorem c_X6_isSheet {l : Launch} {G : zG} {u : zS} {v0 : Int32} : zM l dscM yX6_isSheet cX6_isSheet 1 (some .boolean) rm_X6_isSheet G [.int v0] u (some (.int (f_X6_isSheet v0))) u := zM.of (by decide) (Nat.le_of_ble_eq_true rfl) (fun X hC => t_X6_isSheet hC _ rfl ⟨rfl, rfl⟩)
set_option maxHeartbeats 4000000 in
set_option maxRecDepth 100000 in
theorem bz_X6_isSheet (v0 : Int32) : narrow .boolean (.int (f_X6_isSheet v0)) = .int (f_X6_isSheet v0) := by unfold f_X6_isSheet; exact (bz_X6_in (Int32.toInt64 v0) 0 3)
set_option maxHeartbeats 4000000 in
set_option maxRecDepth 100000 in
theorem t_X6_isLane {l : Launch} {G : zG} {X : zX} {K : Option Value → zS → Prop} (hC : zC G X cX6_isLane 2 RX6 (some .boolean)) {u : zS} {v0 : Int32} {v1 : Int32} (o : Int32) (hf : f_X6_isLane v0 v1 = o) (hk : K (some (.int o)) u) : zW dscM l rm_X6_isLane G X K u 0 [(0, .int v0), (1, .int v1)] [] := by
  unfold f_X6_isLane at hf
  refine r_iload_n hC dX6_isLane_0 0 rfl ?_
  refine r_csi (As := [.int v0]) (rest := []) hC c_X6_isSheet ys_X6_isSheet ml_RX6_205 ⟨by decide, by decide, rfl, rfl⟩ rfl rfl (Nat.le_of_ble_eq_true rfl) dX6_isLane_1 ?_
  refine r_if_eq (tgt := 23) hC dX6_isLane_4 (by decide) (fun c1 => ?_) (fun c1 => ?_)
  · have hf := ite_t c1 hf
    refine r_iconst (v := 0) hC dX6_isLane_23 (by decide) ?_
    subst hf
    exact r_zret hC rfl dX6_isLane_24 hk
  · have hf := ite_f c1 hf
    refine r_iload_n hC dX6_isLane_7 1 rfl ?_
    refine r_i2l hC dX6_isLane_8 ?_
    refine r_lconst (v := 0) hC dX6_isLane_9 (by decide) ?_
    refine r_ldc2 hC cn_RX6_203 dX6_isLane_10 ?_
    refine r_csi (As := [.long (Int32.toInt64 v1), .long 0, .long 3]) (rest := []) hC c_X6_in ys_X6_in ml_RX6_52 ⟨by decide, by decide, rfl, rfl⟩ rfl rfl (Nat.le_of_ble_eq_true rfl) dX6_isLane_13 ?_
    refine r_if_eq (tgt := 23) hC dX6_isLane_16 (by decide) (fun c2 => ?_) (fun c2 => ?_)
    · have hf := ite_t c2 hf
      refine r_iconst (v := 0) hC dX6_isLane_23 (by decide) ?_
      subst hf
      exact r_zret hC rfl dX6_isLane_24 hk
    · have hf := ite_f c2 hf
      refine r_iconst (v := 1) hC dX6_isLane_19 (by decide) ?_
      refine r_goto (tgt := 24) hC dX6_isLane_20 (by decide) ?_
      subst hf
      exact r_zret hC rfl dX6_isLane_24 hk
set_option maxHeartbeats 4000000 in
set_option maxRecDepth 100000 in
theorem c_X6_isLane {l : Launch} {G : zG} {u : zS} {v0 : Int32} {v1 : Int32} : zM l dscM yX6_isLane cX6_isLane 2 (some .boolean) rm_X6_isLane G [.int v0, .int v1] u (some (.int (f_X6_isLane v0 v1))) u := zM.of (by decide) (Nat.le_of_ble_eq_true rfl) (fun X hC => t_X6_isLane hC _ rfl ⟨rfl, rfl⟩)
set_option maxHeartbeats 4000000 in
set_option maxRecDepth 100000 in
theorem bz_X6_isLane (v0 : Int32) (v1 : Int32) : narrow .boolean (.int (f_X6_isLane v0 v1)) = .int (f_X6_isLane v0 v1) := zz_nar (by unfold f_X6_isLane; (repeat' split) <;> simp)
set_option maxHeartbeats 4000000 in
set_option maxRecDepth 100000 in
theorem t_X6_against {l : Launch} {G : zG} {X : zX} {K : Option Value → zS → Prop} (hC : zC G X cX6_against 5 RX6 (some .int)) {u : zS} {v1 : Int32} {v2 : Int32} {v3 : Int32} {v4 : Int32} (o : Int32) (hf : f_X6_against u v1 v2 v3 v4 = some o) (hk : K (some (.int o)) u) : zW dscM l rm_X6_against G X K u 0 [(0, .ref (G.1 0)), (1, .int v1), (2, .int v2), (3, .int v3), (4, .int v4)] [] := by
  unfold f_X6_against at hf
  refine r_aload_n hC dX6_against_0 0 rfl ?_
  refine r_getr hC fd_RX6_20 dM_0 rfl dX6_against_1 ?_
  refine r_iload_n hC dX6_against_4 1 rfl ?_
  obtain ⟨g1, hf⟩ := og_in hf
  refine r_iald hC dM_4 g1 dX6_against_5 ?_
  refine r_if_ge (tgt := 12) hC dX6_against_6 (by decide) (fun c2 => ?_) (fun c2 => ?_)
  · have hf := ite_t c2 hf
    refine r_aload_n hC dX6_against_12 0 rfl ?_
    refine r_getr hC fd_RX6_23 dM_0 rfl dX6_against_13 ?_
    refine r_iload_n hC dX6_against_16 1 rfl ?_
    obtain ⟨g3, hf⟩ := og_in hf
    refine r_iald hC dM_5 g3 dX6_against_17 ?_
    refine r_iload_n hC dX6_against_18 2 rfl ?_
    refine r_icmp_eq (tgt := 25) hC dX6_against_19 (by decide) (fun c4 => ?_) (fun c4 => ?_)
    · have hf := ite_t c4 hf
      refine r_iload_n hC dX6_against_25 3 rfl ?_
      refine r_if_lt (tgt := 51) hC dX6_against_26 (by decide) (fun c5 => ?_) (fun c5 => ?_)
      · have hf := ite_t c5 hf
        refine r_bipush (v := (-13)) hC dX6_against_51 (by decide) ?_
        refine r_goto (tgt := 57) hC dX6_against_53 (by decide) ?_
        have hf := Option.some.inj hf
        subst hf
        exact r_iret hC dX6_against_57 hk
      · have hf := ite_f c5 hf
        refine r_iload hC dX6_against_29 4 rfl ?_
        refine r_if_lt (tgt := 51) hC dX6_against_31 (by decide) (fun c6 => ?_) (fun c6 => ?_)
        · have hf := ite_t c6 hf
          refine r_bipush (v := (-13)) hC dX6_against_51 (by decide) ?_
          refine r_goto (tgt := 57) hC dX6_against_53 (by decide) ?_
          have hf := Option.some.inj hf
          subst hf
          exact r_iret hC dX6_against_57 hk
        · have hf := ite_f c6 hf
          refine r_iload_n hC dX6_against_34 3 rfl ?_
          refine r_i2l hC dX6_against_35 ?_
          refine r_iload hC dX6_against_36 4 rfl ?_
          refine r_i2l hC dX6_against_38 ?_
          refine r_ladd hC dX6_against_39 ?_
          refine r_aload_n hC dX6_against_40 0 rfl ?_
          refine r_getr hC fd_RX6_20 dM_0 rfl dX6_against_41 ?_
          refine r_iload_n hC dX6_against_44 1 rfl ?_
          obtain ⟨g7, hf⟩ := og_in hf
          refine r_iald hC dM_4 g7 dX6_against_45 ?_
          refine r_i2l hC dX6_against_46 ?_
          refine r_lcmp hC dX6_against_47 ?_
          refine r_if_le (tgt := 56) hC dX6_against_48 (by decide) (fun c8 => ?_) (fun c8 => ?_)
          · have hf := ite_t c8 hf
            refine r_iconst (v := 0) hC dX6_against_56 (by decide) ?_
            have hf := Option.some.inj hf
            subst hf
            exact r_iret hC dX6_against_57 hk
          · have hf := ite_f c8 hf
            refine r_bipush (v := (-13)) hC dX6_against_51 (by decide) ?_
            refine r_goto (tgt := 57) hC dX6_against_53 (by decide) ?_
            have hf := Option.some.inj hf
            subst hf
            exact r_iret hC dX6_against_57 hk
    · have hf := ite_f c4 hf
      refine r_bipush (v := (-12)) hC dX6_against_22 (by decide) ?_
      have hf := Option.some.inj hf
      subst hf
      exact r_iret hC dX6_against_24 hk
  · have hf := ite_f c2 hf
    refine r_bipush (v := (-11)) hC dX6_against_9 (by decide) ?_
    have hf := Option.some.inj hf
    subst hf
    exact r_iret hC dX6_against_11 hk
set_option maxHeartbeats 4000000 in
set_option maxRecDepth 100000 in
theorem c_X6_against {l : Launch} {G : zG} {u : zS} {v1 : Int32} {v2 : Int32} {v3 : Int32} {v4 : Int32} {r : Int32} (hf : f_X6_against u v1 v2 v3 v4 = some r) : zM l dscM yX6_against cX6_against 5 (some .int) rm_X6_against G [.ref (G.1 0), .int v1, .int v2, .int v3, .int v4] u (some (.int r)) u := zM.of (by decide) (Nat.le_of_ble_eq_true rfl) (fun X hC => t_X6_against hC r hf ⟨rfl, rfl⟩)
set_option maxHeartbeats 4000000 in
set_option maxRecDepth 100000 in
theorem t_X6_lowest {l : Launch} {G : zG} {X : zX} {K : Option Value → zS → Prop} (hC : zC G X cX6_lowest 3 RX6 (some .long)) {u : zS} {v0 : Int32} {v1 : Int64} (o : Int64) (hf : f_X6_lowest v0 v1 = o) (hk : K (some (.long o)) u) : zW dscM l rm_X6_lowest G X K u 0 [(0, .int v0), (1, .long v1)] [] := by
  unfold f_X6_lowest at hf
  refine r_iload_n hC dX6_lowest_0 0 rfl ?_
  refine r_if_ne (tgt := 11) hC dX6_lowest_1 (by decide) (fun c1 => ?_) (fun c1 => ?_)
  · have hf := ite_f c1 hf
    refine r_iload_n hC dX6_lowest_11 0 rfl ?_
    refine r_iconst (v := 1) hC dX6_lowest_12 (by decide) ?_
    refine r_icmp_ne (tgt := 23) hC dX6_lowest_13 (by decide) (fun c2 => ?_) (fun c2 => ?_)
    · have hf := ite_f c2 hf
      refine r_iload_n hC dX6_lowest_23 0 rfl ?_
      refine r_iconst (v := 2) hC dX6_lowest_24 (by decide) ?_
      refine r_icmp_ne (tgt := 34) hC dX6_lowest_25 (by decide) (fun c3 => ?_) (fun c3 => ?_)
      · have hf := ite_f c3 hf
        refine r_lload_n hC dX6_lowest_34 1 rfl ?_
        subst hf
        exact r_lret hC dX6_lowest_35 hk
      · have hf := ite_t c3 hf
        refine r_lload_n hC dX6_lowest_28 1 rfl ?_
        refine r_l2i hC dX6_lowest_29 ?_
        refine r_i2l hC dX6_lowest_30 ?_
        refine r_goto (tgt := 35) hC dX6_lowest_31 (by decide) ?_
        subst hf
        exact r_lret hC dX6_lowest_35 hk
    · have hf := ite_t c2 hf
      refine r_lload_n hC dX6_lowest_16 1 rfl ?_
      refine r_l2i hC dX6_lowest_17 ?_
      refine r_i2s hC dX6_lowest_18 ?_
      refine r_i2l hC dX6_lowest_19 ?_
      refine r_goto (tgt := 35) hC dX6_lowest_20 (by decide) ?_
      subst hf
      exact r_lret hC dX6_lowest_35 hk
  · have hf := ite_t c1 hf
    refine r_lload_n hC dX6_lowest_4 1 rfl ?_
    refine r_l2i hC dX6_lowest_5 ?_
    refine r_i2b hC dX6_lowest_6 ?_
    refine r_i2l hC dX6_lowest_7 ?_
    refine r_goto (tgt := 35) hC dX6_lowest_8 (by decide) ?_
    subst hf
    exact r_lret hC dX6_lowest_35 hk
set_option maxHeartbeats 4000000 in
set_option maxRecDepth 100000 in
theorem c_X6_lowest {l : Launch} {G : zG} {u : zS} {v0 : Int32} {v1 : Int64} : zM l dscM yX6_lowest cX6_lowest 3 (some .long) rm_X6_lowest G [.int v0, .long v1] u (some (.long (f_X6_lowest v0 v1))) u := zM.of (by decide) (Nat.le_of_ble_eq_true rfl) (fun X hC => t_X6_lowest hC _ rfl ⟨rfl, rfl⟩)
set_option maxHeartbeats 4000000 in
set_option maxRecDepth 100000 in
theorem t_X6_counts_L91_B {l : Launch} {G : zG} {X : zX} {K : Option Value → zS → Prop} (hC : zC G X cX6_counts 14 RX6 (some .int)) {N : Nat} {u : zS} {v1 : Int32} {v2 : Int32} {v4 : Int32} {v5 : Int32} {v6 : Int32} {v8 : Int32} {v9 : Int32} {v10 : Int32} {v11 : Int32} {rec : Int32 → Int32 → Option (Int32)} (hrec : ∀ (v12 : Int32) (v13 : Int32) (o : Int32), rec v12 v13 = some o → zW dscM l rm_X6_counts G X K u 148 [(0, .ref (G.1 0)), (1, .int v1), (2, .int v2), (4, .int v4), (5, .int v5), (6, .int v6), (8, .int v8), (9, .int v9), (10, .int v10), (11, .int v11), (12, .int o)] [] → zW dscM l rm_X6_counts G X K u 91 [(0, .ref (G.1 0)), (1, .int v1), (2, .int v2), (4, .int v4), (5, .int v5), (6, .int v6), (8, .int v8), (9, .int v9), (10, .int v10), (11, .int v11), (12, .int v12), (13, .int v13)] []) : ∀ (v12 : Int32) (v13 : Int32) (o : Int32), f_X6_counts_L91_B N u v1 v2 v4 v5 v6 v8 v9 v10 v11 rec v12 v13 = some o → zW dscM l rm_X6_counts G X K u 148 [(0, .ref (G.1 0)), (1, .int v1), (2, .int v2), (4, .int v4), (5, .int v5), (6, .int v6), (8, .int v8), (9, .int v9), (10, .int v10), (11, .int v11), (12, .int o)] [] → zW dscM l rm_X6_counts G X K u 91 [(0, .ref (G.1 0)), (1, .int v1), (2, .int v2), (4, .int v4), (5, .int v5), (6, .int v6), (8, .int v8), (9, .int v9), (10, .int v10), (11, .int v11), (12, .int v12), (13, .int v13)] [] := by
  intro v12 v13 o hf hk
  unfold f_X6_counts_L91_B at hf
  refine r_iload hC dX6_counts_91 11 rfl ?_
  refine r_iload hC dX6_counts_93 4 rfl ?_
  refine r_icmp_ge (tgt := 148) hC dX6_counts_95 (by decide) (fun c8 => ?_) (fun c8 => ?_)
  · have hf := ite_t c8 hf
    have hf := Option.some.inj hf
    subst hf
    refine r_loc [0, 1, 2, 3, 4, 5, 6, 7, 8, 9, 10] rfl ?_
    exact hk
  · have hf := ite_f c8 hf
    refine r_iload hC dX6_counts_98 10 rfl ?_
    refine r_if_eq (tgt := 148) hC dX6_counts_100 (by decide) (fun c9 => ?_) (fun c9 => ?_)
    · have hf := ite_t c9 hf
      have hf := Option.some.inj hf
      subst hf
      refine r_loc [0, 1, 2, 3, 4, 5, 6, 7, 8, 9, 10] rfl ?_
      exact hk
    · have hf := ite_f c9 hf
      refine r_iload hC dX6_counts_103 9 rfl ?_
      refine r_iload_n hC dX6_counts_105 1 rfl ?_
      refine r_iload hC dX6_counts_106 11 rfl ?_
      refine r_iadd hC dX6_counts_108 ?_
      refine r_bipush (v := 8) hC dX6_counts_109 (by decide) ?_
      refine r_irem (x := (v1 + v13)) (y := 8) hC dX6_counts_111 (by decide) ?_
      obtain ⟨r10, er10, hf⟩ := ob_some hf
      refine r_csi (As := [.int v11, .int ((v1 + v13) - (v1 + v13) / 8 * 8)]) (rest := []) hC (c_X6_seenOf er10) ys_X6_seenOf ml_RX6_103 ⟨by decide, by decide, rfl, rfl⟩ rfl rfl (Nat.le_of_ble_eq_true rfl) dX6_counts_112 ?_
      refine r_i2l hC dX6_counts_115 ?_
      refine r_aload_n hC dX6_counts_116 0 rfl ?_
      refine r_getr hC fd_RX6_16 dM_0 rfl dX6_counts_117 ?_
      refine r_bipush (v := 24) hC dX6_counts_120 (by decide) ?_
      refine r_iload_n hC dX6_counts_122 2 rfl ?_
      refine r_imul hC dX6_counts_123 ?_
      refine r_iload hC dX6_counts_124 3 rfl ?_
      refine r_iadd hC dX6_counts_126 ?_
      refine r_iload hC dX6_counts_127 11 rfl ?_
      refine r_iadd hC dX6_counts_129 ?_
      obtain ⟨g11, hf⟩ := og_in hf
      refine r_lald hC dM_3 g11 dX6_counts_130 ?_
      refine r_lcmp hC dX6_counts_131 ?_
      refine r_if_ne (tgt := 139) hC dX6_counts_132 (by decide) (fun c12 => ?_) (fun c12 => ?_)
      · have hf := ite_f c12 hf
        refine r_iconst (v := 0) hC dX6_counts_139 (by decide) ?_
        refine r_istore (lv' := [(12, .int 0), (0, .ref (G.1 0)), (1, .int v1), (2, .int v2), (4, .int v4), (5, .int v5), (6, .int v6), (8, .int v8), (9, .int v9), (10, .int v10), (11, .int v11), (13, .int v13)]) hC dX6_counts_140 (by decide) rfl ?_
        refine r_iinc (v := 1) (lv' := [(13, .int (v13 + 1)), (12, .int 0), (0, .ref (G.1 0)), (1, .int v1), (2, .int v2), (4, .int v4), (5, .int v5), (6, .int v6), (8, .int v8), (9, .int v9), (10, .int v10), (11, .int v11)]) hC dX6_counts_142 11 rfl (by decide) (by decide) rfl ?_
        refine r_goto (tgt := 91) hC dX6_counts_145 (by decide) ?_
        refine r_loc [2, 3, 4, 5, 6, 7, 8, 9, 10, 11, 1, 0] rfl ?_
        exact hrec 0 (v13 + 1) o hf hk
      · have hf := ite_t c12 hf
        refine r_iconst (v := 1) hC dX6_counts_135 (by decide) ?_
        refine r_goto (tgt := 140) hC dX6_counts_136 (by decide) ?_
        refine r_istore (lv' := [(12, .int 1), (0, .ref (G.1 0)), (1, .int v1), (2, .int v2), (4, .int v4), (5, .int v5), (6, .int v6), (8, .int v8), (9, .int v9), (10, .int v10), (11, .int v11), (13, .int v13)]) hC dX6_counts_140 (by decide) rfl ?_
        refine r_iinc (v := 1) (lv' := [(13, .int (v13 + 1)), (12, .int 1), (0, .ref (G.1 0)), (1, .int v1), (2, .int v2), (4, .int v4), (5, .int v5), (6, .int v6), (8, .int v8), (9, .int v9), (10, .int v10), (11, .int v11)]) hC dX6_counts_142 11 rfl (by decide) (by decide) rfl ?_
        refine r_goto (tgt := 91) hC dX6_counts_145 (by decide) ?_
        refine r_loc [2, 3, 4, 5, 6, 7, 8, 9, 10, 11, 1, 0] rfl ?_
        exact hrec 1 (v13 + 1) o hf hk
set_option maxHeartbeats 4000000 in
set_option maxRecDepth 100000 in
theorem t_X6_counts_L91 {l : Launch} {G : zG} {X : zX} {K : Option Value → zS → Prop} (hC : zC G X cX6_counts 14 RX6 (some .int)) {N : Nat} {u : zS} {v1 : Int32} {v2 : Int32} {v4 : Int32} {v5 : Int32} {v6 : Int32} {v8 : Int32} {v9 : Int32} {v10 : Int32} {v11 : Int32} : ∀ (n : Nat) (v12 : Int32) (v13 : Int32) (o : Int32), f_X6_counts_L91 N u v1 v2 v4 v5 v6 v8 v9 v10 v11 n v12 v13 = some o → zW dscM l rm_X6_counts G X K u 148 [(0, .ref (G.1 0)), (1, .int v1), (2, .int v2), (4, .int v4), (5, .int v5), (6, .int v6), (8, .int v8), (9, .int v9), (10, .int v10), (11, .int v11), (12, .int o)] [] → zW dscM l rm_X6_counts G X K u 91 [(0, .ref (G.1 0)), (1, .int v1), (2, .int v2), (4, .int v4), (5, .int v5), (6, .int v6), (8, .int v8), (9, .int v9), (10, .int v10), (11, .int v11), (12, .int v12), (13, .int v13)] [] := by
  intro n
  induction n with
  | zero => intro v12 v13 o hf; cases hf
  | succ n ih => intro v12 v13 o hf hk; exact t_X6_counts_L91_B hC (rec := f_X6_counts_L91 N u v1 v2 v4 v5 v6 v8 v9 v10 v11 n) ih v12 v13 o hf hk
set_option maxHeartbeats 4000000 in
set_option maxRecDepth 100000 in
theorem t_X6_counts_J188 {l : Launch} {G : zG} {X : zX} {K : Option Value → zS → Prop} (hC : zC G X cX6_counts 14 RX6 (some .int)) {N : Nat} {u : zS} {v1 : Int32} {v2 : Int32} {v4 : Int32} {v5 : Int32} {v6 : Int32} {rec : Int32 → Int32 → Int32 → Int32 → Option (Int32 × Int32 × Int32)} (hrec : ∀ (v8 : Int32) (v9 : Int32) (v10 : Int32) (v11 : Int32) (o : Int32 × Int32 × Int32), rec v8 v9 v10 v11 = some o → zW dscM l rm_X6_counts G X K u 223 [(6, .int v6), (8, .int o.1), (9, .int o.2.1), (10, .int o.2.2)] [] → zW dscM l rm_X6_counts G X K u 77 [(0, .ref (G.1 0)), (1, .int v1), (2, .int v2), (4, .int v4), (5, .int v5), (6, .int v6), (8, .int v8), (9, .int v9), (10, .int v10), (11, .int v11)] []) : ∀ (v8 : Int32) (v10 : Int32) (v11 : Int32) (v12 : Int32) (s0 : Int32) (o : Int32 × Int32 × Int32), f_X6_counts_J188 N u v1 v2 v4 v5 v6 rec v8 v10 v11 v12 s0 = some o → zW dscM l rm_X6_counts G X K u 223 [(6, .int v6), (8, .int o.1), (9, .int o.2.1), (10, .int o.2.2)] [] → zW dscM l rm_X6_counts G X K u 188 [(0, .ref (G.1 0)), (1, .int v1), (2, .int v2), (4, .int v4), (5, .int v5), (6, .int v6), (8, .int v8), (10, .int v10), (11, .int v11), (12, .int v12)] [.int s0] := by
  intro v8 v10 v11 v12 s0 o hf hk
  unfold f_X6_counts_J188 at hf
  refine r_istore (lv' := [(9, .int s0), (0, .ref (G.1 0)), (1, .int v1), (2, .int v2), (4, .int v4), (5, .int v5), (6, .int v6), (8, .int v8), (10, .int v10), (11, .int v11), (12, .int v12)]) hC dX6_counts_188 (by decide) rfl ?_
  refine r_iload hC dX6_counts_190 10 rfl ?_
  refine r_if_eq (tgt := 213) hC dX6_counts_192 (by decide) (fun c16 => ?_) (fun c16 => ?_)
  · have hf := ite_t c16 hf
    refine r_iload hC dX6_counts_213 8 rfl ?_
    refine r_istore (lv' := [(10, .int v10), (9, .int s0), (0, .ref (G.1 0)), (1, .int v1), (2, .int v2), (4, .int v4), (5, .int v5), (6, .int v6), (8, .int v8), (11, .int v11), (12, .int v12)]) hC dX6_counts_215 (by decide) rfl ?_
    refine r_iinc (v := 1) (lv' := [(11, .int (v11 + 1)), (10, .int v10), (9, .int s0), (0, .ref (G.1 0)), (1, .int v1), (2, .int v2), (4, .int v4), (5, .int v5), (6, .int v6), (8, .int v8), (12, .int v12)]) hC dX6_counts_217 9 rfl (by decide) (by decide) rfl ?_
    refine r_goto (tgt := 77) hC dX6_counts_220 (by decide) ?_
    refine r_loc [3, 4, 5, 6, 7, 8, 9, 2, 1, 0] rfl ?_
    exact hrec v8 s0 v10 (v11 + 1) o hf hk
  · have hf := ite_f c16 hf
    refine r_iload hC dX6_counts_195 9 rfl ?_
    obtain ⟨r17, er17, hf⟩ := ob_some hf
    refine r_csi (As := [.int v11]) (rest := []) hC (c_X6_ones er17) ys_X6_ones ml_RX6_158 ⟨by decide, by decide, rfl, rfl⟩ rfl rfl (Nat.le_of_ble_eq_true rfl) dX6_counts_197 ?_
    refine r_iload hC dX6_counts_200 8 rfl ?_
    refine r_icmp_le (tgt := 213) hC dX6_counts_202 (by decide) (fun c18 => ?_) (fun c18 => ?_)
    · have hf := ite_t c18 hf
      refine r_iload hC dX6_counts_213 8 rfl ?_
      refine r_istore (lv' := [(10, .int v10), (9, .int s0), (0, .ref (G.1 0)), (1, .int v1), (2, .int v2), (4, .int v4), (5, .int v5), (6, .int v6), (8, .int v8), (11, .int v11), (12, .int v12)]) hC dX6_counts_215 (by decide) rfl ?_
      refine r_iinc (v := 1) (lv' := [(11, .int (v11 + 1)), (10, .int v10), (9, .int s0), (0, .ref (G.1 0)), (1, .int v1), (2, .int v2), (4, .int v4), (5, .int v5), (6, .int v6), (8, .int v8), (12, .int v12)]) hC dX6_counts_217 9 rfl (by decide) (by decide) rfl ?_
      refine r_goto (tgt := 77) hC dX6_counts_220 (by decide) ?_
      refine r_loc [3, 4, 5, 6, 7, 8, 9, 2, 1, 0] rfl ?_
      exact hrec v8 s0 v10 (v11 + 1) o hf hk
    · have hf := ite_f c18 hf
      refine r_iload hC dX6_counts_205 9 rfl ?_
      obtain ⟨r19, er19, hf⟩ := ob_some hf
      refine r_csi (As := [.int v11]) (rest := []) hC (c_X6_ones er19) ys_X6_ones ml_RX6_158 ⟨by decide, by decide, rfl, rfl⟩ rfl rfl (Nat.le_of_ble_eq_true rfl) dX6_counts_207 ?_
      refine r_goto (tgt := 215) hC dX6_counts_210 (by decide) ?_
      refine r_istore (lv' := [(10, .int r19), (9, .int s0), (0, .ref (G.1 0)), (1, .int v1), (2, .int v2), (4, .int v4), (5, .int v5), (6, .int v6), (8, .int v8), (11, .int v11), (12, .int v12)]) hC dX6_counts_215 (by decide) rfl ?_
      refine r_iinc (v := 1) (lv' := [(11, .int (v11 + 1)), (10, .int r19), (9, .int s0), (0, .ref (G.1 0)), (1, .int v1), (2, .int v2), (4, .int v4), (5, .int v5), (6, .int v6), (8, .int v8), (12, .int v12)]) hC dX6_counts_217 9 rfl (by decide) (by decide) rfl ?_
      refine r_goto (tgt := 77) hC dX6_counts_220 (by decide) ?_
      refine r_loc [3, 4, 5, 6, 7, 8, 9, 2, 1, 0] rfl ?_
      exact hrec v8 s0 r19 (v11 + 1) o hf hk
set_option maxHeartbeats 4000000 in
set_option maxRecDepth 100000 in
theorem t_X6_counts_J186 {l : Launch} {G : zG} {X : zX} {K : Option Value → zS → Prop} (hC : zC G X cX6_counts 14 RX6 (some .int)) {N : Nat} {u : zS} {v1 : Int32} {v2 : Int32} {v4 : Int32} {v5 : Int32} {v6 : Int32} {rec : Int32 → Int32 → Int32 → Int32 → Option (Int32 × Int32 × Int32)} (hrec : ∀ (v8 : Int32) (v9 : Int32) (v10 : Int32) (v11 : Int32) (o : Int32 × Int32 × Int32), rec v8 v9 v10 v11 = some o → zW dscM l rm_X6_counts G X K u 223 [(6, .int v6), (8, .int o.1), (9, .int o.2.1), (10, .int o.2.2)] [] → zW dscM l rm_X6_counts G X K u 77 [(0, .ref (G.1 0)), (1, .int v1), (2, .int v2), (4, .int v4), (5, .int v5), (6, .int v6), (8, .int v8), (9, .int v9), (10, .int v10), (11, .int v11)] []) : ∀ (v8 : Int32) (v9 : Int32) (v10 : Int32) (v11 : Int32) (v12 : Int32) (o : Int32 × Int32 × Int32), f_X6_counts_J186 N u v1 v2 v4 v5 v6 rec v8 v9 v10 v11 v12 = some o → zW dscM l rm_X6_counts G X K u 223 [(6, .int v6), (8, .int o.1), (9, .int o.2.1), (10, .int o.2.2)] [] → zW dscM l rm_X6_counts G X K u 186 [(0, .ref (G.1 0)), (1, .int v1), (2, .int v2), (4, .int v4), (5, .int v5), (6, .int v6), (8, .int v8), (9, .int v9), (10, .int v10), (11, .int v11), (12, .int v12)] [] := by
  intro v8 v9 v10 v11 v12 o hf hk
  unfold f_X6_counts_J186 at hf
  refine r_iload hC dX6_counts_186 7 rfl ?_
  refine r_loc [0, 1, 2, 3, 4, 5, 6, 8, 9, 10] rfl ?_
  exact t_X6_counts_J188 hC hrec  v8 v10 v11 v12 v9 o hf hk
set_option maxHeartbeats 4000000 in
set_option maxRecDepth 100000 in
theorem t_X6_counts_J160 {l : Launch} {G : zG} {X : zX} {K : Option Value → zS → Prop} (hC : zC G X cX6_counts 14 RX6 (some .int)) {N : Nat} {u : zS} {v1 : Int32} {v2 : Int32} {v4 : Int32} {v5 : Int32} {v6 : Int32} {rec : Int32 → Int32 → Int32 → Int32 → Option (Int32 × Int32 × Int32)} (hrec : ∀ (v8 : Int32) (v9 : Int32) (v10 : Int32) (v11 : Int32) (o : Int32 × Int32 × Int32), rec v8 v9 v10 v11 = some o → zW dscM l rm_X6_counts G X K u 223 [(6, .int v6), (8, .int o.1), (9, .int o.2.1), (10, .int o.2.2)] [] → zW dscM l rm_X6_counts G X K u 77 [(0, .ref (G.1 0)), (1, .int v1), (2, .int v2), (4, .int v4), (5, .int v5), (6, .int v6), (8, .int v8), (9, .int v9), (10, .int v10), (11, .int v11)] []) : ∀ (v9 : Int32) (v10 : Int32) (v11 : Int32) (v12 : Int32) (s0 : Int32) (s1 : Int32) (o : Int32 × Int32 × Int32), f_X6_counts_J160 N u v1 v2 v4 v5 v6 rec v9 v10 v11 v12 s0 s1 = some o → zW dscM l rm_X6_counts G X K u 223 [(6, .int v6), (8, .int o.1), (9, .int o.2.1), (10, .int o.2.2)] [] → zW dscM l rm_X6_counts G X K u 160 [(0, .ref (G.1 0)), (1, .int v1), (2, .int v2), (4, .int v4), (5, .int v5), (6, .int v6), (9, .int v9), (10, .int v10), (11, .int v11), (12, .int v12)] [.int s1, .int s0] := by
  intro v9 v10 v11 v12 s0 s1 o hf hk
  unfold f_X6_counts_J160 at hf
  refine r_iadd hC dX6_counts_160 ?_
  refine r_istore (lv' := [(8, .int (s0 + s1)), (0, .ref (G.1 0)), (1, .int v1), (2, .int v2), (4, .int v4), (5, .int v5), (6, .int v6), (9, .int v9), (10, .int v10), (11, .int v11), (12, .int v12)]) hC dX6_counts_161 (by decide) rfl ?_
  refine r_iload hC dX6_counts_163 10 rfl ?_
  refine r_if_eq (tgt := 186) hC dX6_counts_165 (by decide) (fun c15 => ?_) (fun c15 => ?_)
  · have hf := ite_t c15 hf
    refine r_loc [1, 2, 3, 4, 5, 6, 0, 7, 8, 9, 10] rfl ?_
    exact t_X6_counts_J186 hC hrec  (s0 + s1) v9 v10 v11 v12 o hf hk
  · have hf := ite_f c15 hf
    refine r_iload hC dX6_counts_168 9 rfl ?_
    obtain ⟨r20, er20, hf⟩ := ob_some hf
    refine r_csi (As := [.int v11]) (rest := []) hC (c_X6_ones er20) ys_X6_ones ml_RX6_158 ⟨by decide, by decide, rfl, rfl⟩ rfl rfl (Nat.le_of_ble_eq_true rfl) dX6_counts_170 ?_
    refine r_iload hC dX6_counts_173 7 rfl ?_
    refine r_icmp_ge (tgt := 186) hC dX6_counts_175 (by decide) (fun c21 => ?_) (fun c21 => ?_)
    · have hf := ite_t c21 hf
      refine r_loc [1, 2, 3, 4, 5, 6, 0, 7, 8, 9, 10] rfl ?_
      exact t_X6_counts_J186 hC hrec  (s0 + s1) v9 v10 v11 v12 o hf hk
    · have hf := ite_f c21 hf
      refine r_iload hC dX6_counts_178 9 rfl ?_
      obtain ⟨r22, er22, hf⟩ := ob_some hf
      refine r_csi (As := [.int v11]) (rest := []) hC (c_X6_ones er22) ys_X6_ones ml_RX6_158 ⟨by decide, by decide, rfl, rfl⟩ rfl rfl (Nat.le_of_ble_eq_true rfl) dX6_counts_180 ?_
      refine r_goto (tgt := 188) hC dX6_counts_183 (by decide) ?_
      refine r_loc [1, 2, 3, 4, 5, 6, 0, 8, 9, 10] rfl ?_
      exact t_X6_counts_J188 hC hrec  (s0 + s1) v10 v11 v12 r22 o hf hk
set_option maxHeartbeats 4000000 in
set_option maxRecDepth 100000 in
theorem t_X6_counts_J148 {l : Launch} {G : zG} {X : zX} {K : Option Value → zS → Prop} (hC : zC G X cX6_counts 14 RX6 (some .int)) {N : Nat} {u : zS} {v1 : Int32} {v2 : Int32} {v4 : Int32} {v5 : Int32} {v6 : Int32} {rec : Int32 → Int32 → Int32 → Int32 → Option (Int32 × Int32 × Int32)} (hrec : ∀ (v8 : Int32) (v9 : Int32) (v10 : Int32) (v11 : Int32) (o : Int32 × Int32 × Int32), rec v8 v9 v10 v11 = some o → zW dscM l rm_X6_counts G X K u 223 [(6, .int v6), (8, .int o.1), (9, .int o.2.1), (10, .int o.2.2)] [] → zW dscM l rm_X6_counts G X K u 77 [(0, .ref (G.1 0)), (1, .int v1), (2, .int v2), (4, .int v4), (5, .int v5), (6, .int v6), (8, .int v8), (9, .int v9), (10, .int v10), (11, .int v11)] []) : ∀ (v8 : Int32) (v9 : Int32) (v10 : Int32) (v11 : Int32) (v12 : Int32) (o : Int32 × Int32 × Int32), f_X6_counts_J148 N u v1 v2 v4 v5 v6 rec v8 v9 v10 v11 v12 = some o → zW dscM l rm_X6_counts G X K u 223 [(6, .int v6), (8, .int o.1), (9, .int o.2.1), (10, .int o.2.2)] [] → zW dscM l rm_X6_counts G X K u 148 [(0, .ref (G.1 0)), (1, .int v1), (2, .int v2), (4, .int v4), (5, .int v5), (6, .int v6), (8, .int v8), (9, .int v9), (10, .int v10), (11, .int v11), (12, .int v12)] [] := by
  intro v8 v9 v10 v11 v12 o hf hk
  unfold f_X6_counts_J148 at hf
  refine r_iload hC dX6_counts_148 6 rfl ?_
  refine r_iload hC dX6_counts_150 10 rfl ?_
  refine r_if_eq (tgt := 159) hC dX6_counts_152 (by decide) (fun c14 => ?_) (fun c14 => ?_)
  · have hf := ite_t c14 hf
    refine r_iconst (v := 0) hC dX6_counts_159 (by decide) ?_
    refine r_loc [0, 1, 2, 3, 4, 5, 7, 8, 9, 10] rfl ?_
    exact t_X6_counts_J160 hC hrec  v9 v10 v11 v12 v8 0 o hf hk
  · have hf := ite_f c14 hf
    refine r_iconst (v := 1) hC dX6_counts_155 (by decide) ?_
    refine r_goto (tgt := 160) hC dX6_counts_156 (by decide) ?_
    refine r_loc [0, 1, 2, 3, 4, 5, 7, 8, 9, 10] rfl ?_
    exact t_X6_counts_J160 hC hrec  v9 v10 v11 v12 v8 1 o hf hk
set_option maxHeartbeats 4000000 in
set_option maxRecDepth 100000 in
theorem t_X6_counts_L77_B {l : Launch} {G : zG} {X : zX} {K : Option Value → zS → Prop} (hC : zC G X cX6_counts 14 RX6 (some .int)) {N : Nat} {u : zS} {v1 : Int32} {v2 : Int32} {v4 : Int32} {v5 : Int32} {v6 : Int32} {rec : Int32 → Int32 → Int32 → Int32 → Option (Int32 × Int32 × Int32)} (hrec : ∀ (v8 : Int32) (v9 : Int32) (v10 : Int32) (v11 : Int32) (o : Int32 × Int32 × Int32), rec v8 v9 v10 v11 = some o → zW dscM l rm_X6_counts G X K u 223 [(6, .int v6), (8, .int o.1), (9, .int o.2.1), (10, .int o.2.2)] [] → zW dscM l rm_X6_counts G X K u 77 [(0, .ref (G.1 0)), (1, .int v1), (2, .int v2), (4, .int v4), (5, .int v5), (6, .int v6), (8, .int v8), (9, .int v9), (10, .int v10), (11, .int v11)] []) : ∀ (v8 : Int32) (v9 : Int32) (v10 : Int32) (v11 : Int32) (o : Int32 × Int32 × Int32), f_X6_counts_L77_B N u v1 v2 v4 v5 v6 rec v8 v9 v10 v11 = some o → zW dscM l rm_X6_counts G X K u 223 [(6, .int v6), (8, .int o.1), (9, .int o.2.1), (10, .int o.2.2)] [] → zW dscM l rm_X6_counts G X K u 77 [(0, .ref (G.1 0)), (1, .int v1), (2, .int v2), (4, .int v4), (5, .int v5), (6, .int v6), (8, .int v8), (9, .int v9), (10, .int v10), (11, .int v11)] [] := by
  intro v8 v9 v10 v11 o hf hk
  unfold f_X6_counts_L77_B at hf
  refine r_iload hC dX6_counts_77 9 rfl ?_
  refine r_sipush (v := 256) hC dX6_counts_79 (by decide) ?_
  refine r_icmp_ge (tgt := 223) hC dX6_counts_82 (by decide) (fun c7 => ?_) (fun c7 => ?_)
  · have hf := ite_t c7 hf
    have hf := Option.some.inj hf
    subst hf
    refine r_loc [5, 6, 7, 8] rfl ?_
    exact hk
  · have hf := ite_f c7 hf
    refine r_iconst (v := 1) hC dX6_counts_85 (by decide) ?_
    refine r_istore (lv' := [(12, .int 1), (0, .ref (G.1 0)), (1, .int v1), (2, .int v2), (4, .int v4), (5, .int v5), (6, .int v6), (8, .int v8), (9, .int v9), (10, .int v10), (11, .int v11)]) hC dX6_counts_86 (by decide) rfl ?_
    refine r_iconst (v := 0) hC dX6_counts_88 (by decide) ?_
    refine r_istore (lv' := [(13, .int 0), (12, .int 1), (0, .ref (G.1 0)), (1, .int v1), (2, .int v2), (4, .int v4), (5, .int v5), (6, .int v6), (8, .int v8), (9, .int v9), (10, .int v10), (11, .int v11)]) hC dX6_counts_89 (by decide) rfl ?_
    refine r_loc [2, 3, 4, 5, 6, 7, 8, 9, 10, 11, 1, 0] rfl ?_
    obtain ⟨q13, eq13, hf⟩ := ob_some hf
    refine t_X6_counts_L91 hC N 1 0 q13 eq13 ?_
    exact t_X6_counts_J148 hC hrec  v8 v9 v10 v11 q13 o hf hk
set_option maxHeartbeats 4000000 in
set_option maxRecDepth 100000 in
theorem t_X6_counts_L77 {l : Launch} {G : zG} {X : zX} {K : Option Value → zS → Prop} (hC : zC G X cX6_counts 14 RX6 (some .int)) {N : Nat} {u : zS} {v1 : Int32} {v2 : Int32} {v4 : Int32} {v5 : Int32} {v6 : Int32} : ∀ (n : Nat) (v8 : Int32) (v9 : Int32) (v10 : Int32) (v11 : Int32) (o : Int32 × Int32 × Int32), f_X6_counts_L77 N u v1 v2 v4 v5 v6 n v8 v9 v10 v11 = some o → zW dscM l rm_X6_counts G X K u 223 [(6, .int v6), (8, .int o.1), (9, .int o.2.1), (10, .int o.2.2)] [] → zW dscM l rm_X6_counts G X K u 77 [(0, .ref (G.1 0)), (1, .int v1), (2, .int v2), (4, .int v4), (5, .int v5), (6, .int v6), (8, .int v8), (9, .int v9), (10, .int v10), (11, .int v11)] [] := by
  intro n
  induction n with
  | zero => intro v8 v9 v10 v11 o hf; cases hf
  | succ n ih => intro v8 v9 v10 v11 o hf hk; exact t_X6_counts_L77_B hC (rec := f_X6_counts_L77 N u v1 v2 v4 v5 v6 n) ih v8 v9 v10 v11 o hf hk
set_option maxHeartbeats 4000000 in
set_option maxRecDepth 100000 in
theorem t_X6_counts {l : Launch} {G : zG} {X : zX} {K : Option Value → zS → Prop} (hC : zC G X cX6_counts 14 RX6 (some .int)) {N : Nat} {u : zS} {v1 : Int32} {v2 : Int32} {v3 : Int32} {v4 : Int32} {v5 : Int32} {v6 : Int32} (o : Int32) (hf : f_X6_counts N u v1 v2 v3 v4 v5 v6 = some o) (hk : K (some (.int o)) u) : zW dscM l rm_X6_counts G X K u 0 [(0, .ref (G.1 0)), (1, .int v1), (2, .int v2), (3, .int v3), (4, .int v4), (5, .int v5), (6, .int v6)] [] := by
  unfold f_X6_counts at hf
  refine r_iload_n hC dX6_counts_0 1 rfl ?_
  refine r_csi (As := [.int v1]) (rest := []) hC c_X6_isPlace ys_X6_isPlace ml_RX6_74 ⟨by decide, by decide, rfl, rfl⟩ rfl rfl (Nat.le_of_ble_eq_true rfl) dX6_counts_1 ?_
  refine r_if_eq (tgt := 41) hC dX6_counts_4 (by decide) (fun c1 => ?_) (fun c1 => ?_)
  · have hf := ite_t c1 hf
    refine r_iconst (v := (-1)) hC dX6_counts_41 (by decide) ?_
    have hf := Option.some.inj hf
    subst hf
    exact r_iret hC dX6_counts_42 hk
  · have hf := ite_f c1 hf
    refine r_iload_n hC dX6_counts_7 2 rfl ?_
    refine r_iload_n hC dX6_counts_8 3 rfl ?_
    refine r_csi (As := [.int v2, .int v3]) (rest := []) hC c_X6_isLane ys_X6_isLane ml_RX6_208 ⟨by decide, by decide, rfl, rfl⟩ rfl rfl (Nat.le_of_ble_eq_true rfl) dX6_counts_9 ?_
    refine r_if_eq (tgt := 41) hC dX6_counts_12 (by decide) (fun c2 => ?_) (fun c2 => ?_)
    · have hf := ite_t c2 hf
      refine r_iconst (v := (-1)) hC dX6_counts_41 (by decide) ?_
      have hf := Option.some.inj hf
      subst hf
      exact r_iret hC dX6_counts_42 hk
    · have hf := ite_f c2 hf
      refine r_iload hC dX6_counts_15 5 rfl ?_
      refine r_i2l hC dX6_counts_17 ?_
      refine r_lconst (v := 1) hC dX6_counts_18 (by decide) ?_
      refine r_ldc2 hC cn_RX6_197 dX6_counts_19 ?_
      refine r_csi (As := [.long (Int32.toInt64 v5), .long 1, .long 8]) (rest := []) hC c_X6_in ys_X6_in ml_RX6_52 ⟨by decide, by decide, rfl, rfl⟩ rfl rfl (Nat.le_of_ble_eq_true rfl) dX6_counts_22 ?_
      refine r_if_eq (tgt := 41) hC dX6_counts_25 (by decide) (fun c3 => ?_) (fun c3 => ?_)
      · have hf := ite_t c3 hf
        refine r_iconst (v := (-1)) hC dX6_counts_41 (by decide) ?_
        have hf := Option.some.inj hf
        subst hf
        exact r_iret hC dX6_counts_42 hk
      · have hf := ite_f c3 hf
        refine r_iload hC dX6_counts_28 6 rfl ?_
        refine r_i2l hC dX6_counts_30 ?_
        refine r_lconst (v := 0) hC dX6_counts_31 (by decide) ?_
        refine r_ldc2 hC cn_RX6_211 dX6_counts_32 ?_
        refine r_csi (As := [.long (Int32.toInt64 v6), .long 0, .long 2]) (rest := []) hC c_X6_in ys_X6_in ml_RX6_52 ⟨by decide, by decide, rfl, rfl⟩ rfl rfl (Nat.le_of_ble_eq_true rfl) dX6_counts_35 ?_
        refine r_if_ne (tgt := 43) hC dX6_counts_38 (by decide) (fun c4 => ?_) (fun c4 => ?_)
        · have hf := ite_f c4 hf
          refine r_aload_n hC dX6_counts_43 0 rfl ?_
          refine r_iload_n hC dX6_counts_44 2 rfl ?_
          refine r_iload_n hC dX6_counts_45 3 rfl ?_
          refine r_iload hC dX6_counts_46 4 rfl ?_
          refine r_iload hC dX6_counts_48 5 rfl ?_
          obtain ⟨r5, er5, hf⟩ := ob_some hf
          refine r_cvi (As := [.int v2, .int v3, .int v4, .int v5]) (rest := []) hC (c_X6_against er5) yv_X6_against ml_RX6_213 dM_0 ⟨by decide, by decide, rfl, rfl⟩ rfl rfl (Nat.le_of_ble_eq_true rfl) dX6_counts_50 ?_
          refine r_istore (lv' := [(7, .int r5), (0, .ref (G.1 0)), (1, .int v1), (2, .int v2), (3, .int v3), (4, .int v4), (5, .int v5), (6, .int v6)]) hC dX6_counts_53 (by decide) rfl ?_
          refine r_iload hC dX6_counts_55 0 rfl ?_
          refine r_if_ge (tgt := 63) hC dX6_counts_57 (by decide) (fun c6 => ?_) (fun c6 => ?_)
          · have hf := ite_t c6 hf
            refine r_iconst (v := 0) hC dX6_counts_63 (by decide) ?_
            refine r_istore (lv' := [(8, .int 0), (7, .int r5), (0, .ref (G.1 0)), (1, .int v1), (2, .int v2), (3, .int v3), (4, .int v4), (5, .int v5), (6, .int v6)]) hC dX6_counts_64 (by decide) rfl ?_
            refine r_ldc hC cn_RX6_182 dX6_counts_66 ?_
            refine r_istore (lv' := [(9, .int 1000000), (8, .int 0), (7, .int r5), (0, .ref (G.1 0)), (1, .int v1), (2, .int v2), (3, .int v3), (4, .int v4), (5, .int v5), (6, .int v6)]) hC dX6_counts_68 (by decide) rfl ?_
            refine r_bipush (v := (-4)) hC dX6_counts_70 (by decide) ?_
            refine r_istore (lv' := [(10, .int (-4)), (9, .int 1000000), (8, .int 0), (7, .int r5), (0, .ref (G.1 0)), (1, .int v1), (2, .int v2), (3, .int v3), (4, .int v4), (5, .int v5), (6, .int v6)]) hC dX6_counts_72 (by decide) rfl ?_
            refine r_iconst (v := 0) hC dX6_counts_74 (by decide) ?_
            refine r_istore (lv' := [(11, .int 0), (10, .int (-4)), (9, .int 1000000), (8, .int 0), (7, .int r5), (0, .ref (G.1 0)), (1, .int v1), (2, .int v2), (3, .int v3), (4, .int v4), (5, .int v5), (6, .int v6)]) hC dX6_counts_75 (by decide) rfl ?_
            refine r_loc [5, 6, 7, 9, 10, 11, 3, 2, 1, 0] rfl ?_
            obtain ⟨q23, eq23, hf⟩ := ob_some hf
            refine t_X6_counts_L77 hC N 0 1000000 (-4) 0 q23 eq23 ?_
            refine r_iload hC dX6_counts_223 0 rfl ?_
            refine r_if_ne (tgt := 233) hC dX6_counts_225 (by decide) (fun c24 => ?_) (fun c24 => ?_)
            · have hf := ite_f c24 hf
              refine r_iload hC dX6_counts_233 1 rfl ?_
              refine r_if_ne (tgt := 243) hC dX6_counts_235 (by decide) (fun c25 => ?_) (fun c25 => ?_)
              · have hf := ite_f c25 hf
                refine r_iload hC dX6_counts_243 0 rfl ?_
                refine r_iconst (v := 1) hC dX6_counts_245 (by decide) ?_
                refine r_icmp_ne (tgt := 254) hC dX6_counts_246 (by decide) (fun c26 => ?_) (fun c26 => ?_)
                · have hf := ite_f c26 hf
                  refine r_iload hC dX6_counts_254 3 rfl ?_
                  have hf := Option.some.inj hf
                  subst hf
                  exact r_iret hC dX6_counts_256 hk
                · have hf := ite_t c26 hf
                  refine r_iload hC dX6_counts_249 2 rfl ?_
                  refine r_goto (tgt := 256) hC dX6_counts_251 (by decide) ?_
                  have hf := Option.some.inj hf
                  subst hf
                  exact r_iret hC dX6_counts_256 hk
              · have hf := ite_t c25 hf
                refine r_bipush (v := (-4)) hC dX6_counts_238 (by decide) ?_
                refine r_goto (tgt := 256) hC dX6_counts_240 (by decide) ?_
                have hf := Option.some.inj hf
                subst hf
                exact r_iret hC dX6_counts_256 hk
            · have hf := ite_t c24 hf
              refine r_iload hC dX6_counts_228 1 rfl ?_
              refine r_goto (tgt := 256) hC dX6_counts_230 (by decide) ?_
              have hf := Option.some.inj hf
              subst hf
              exact r_iret hC dX6_counts_256 hk
          · have hf := ite_f c6 hf
            refine r_iload hC dX6_counts_60 0 rfl ?_
            have hf := Option.some.inj hf
            subst hf
            exact r_iret hC dX6_counts_62 hk
        · have hf := ite_t c4 hf
          refine r_iconst (v := (-1)) hC dX6_counts_41 (by decide) ?_
          have hf := Option.some.inj hf
          subst hf
          exact r_iret hC dX6_counts_42 hk
set_option maxHeartbeats 4000000 in
set_option maxRecDepth 100000 in
theorem c_X6_counts {l : Launch} {G : zG} {N : Nat} {u : zS} {v1 : Int32} {v2 : Int32} {v3 : Int32} {v4 : Int32} {v5 : Int32} {v6 : Int32} {r : Int32} (hf : f_X6_counts N u v1 v2 v3 v4 v5 v6 = some r) : zM l dscM yX6_counts cX6_counts 14 (some .int) rm_X6_counts G [.ref (G.1 0), .int v1, .int v2, .int v3, .int v4, .int v5, .int v6] u (some (.int r)) u := zM.of (by decide) (Nat.le_of_ble_eq_true rfl) (fun X hC => t_X6_counts hC r hf ⟨rfl, rfl⟩)
set_option maxHeartbeats 4000000 in
set_option maxRecDepth 100000 in
theorem t_X6_steps_J218 {l : Launch} {G : zG} {X : zX} {K : Option Value → zS → Prop} (hC : zC G X cX6_steps 16 RX6 (some .int)) {N : Nat} {u : zS} {v1 : Int32} {v3 : Int32} {v5 : Int32} {v6 : Int32} {v7 : Int32} {v9 : Int32} {v10 : Int32} {v11 : Int32} {v12 : Int32} {rec : Int32 → Int32 → Int32 → Option (Int32)} (hrec : ∀ (v13 : Int32) (v14 : Int32) (v15 : Int32) (o : Int32), rec v13 v14 v15 = some o → zW dscM l rm_X6_steps G X K u 255 [(0, .ref (G.1 0)), (1, .int v1), (3, .int v3), (5, .int v5), (6, .int v6), (7, .int v7), (9, .int v9), (10, .int v10), (11, .int v11), (12, .int v12), (13, .int o)] [] → zW dscM l rm_X6_steps G X K u 162 [(0, .ref (G.1 0)), (1, .int v1), (3, .int v3), (5, .int v5), (6, .int v6), (7, .int v7), (9, .int v9), (10, .int v10), (11, .int v11), (12, .int v12), (13, .int v13), (14, .int v14), (15, .int v15)] []) : ∀ (v15 : Int32) (s0 : Int32) (o : Int32), f_X6_steps_J218 N u v1 v3 v5 v6 v7 v9 v10 v11 v12 rec v15 s0 = some o → zW dscM l rm_X6_steps G X K u 255 [(0, .ref (G.1 0)), (1, .int v1), (3, .int v3), (5, .int v5), (6, .int v6), (7, .int v7), (9, .int v9), (10, .int v10), (11, .int v11), (12, .int v12), (13, .int o)] [] → zW dscM l rm_X6_steps G X K u 218 [(0, .ref (G.1 0)), (1, .int v1), (3, .int v3), (5, .int v5), (6, .int v6), (7, .int v7), (9, .int v9), (10, .int v10), (11, .int v11), (12, .int v12), (15, .int v15)] [.int s0] := by
  intro v15 s0 o hf hk
  unfold f_X6_steps_J218 at hf
  refine r_istore (lv' := [(14, .int s0), (0, .ref (G.1 0)), (1, .int v1), (3, .int v3), (5, .int v5), (6, .int v6), (7, .int v7), (9, .int v9), (10, .int v10), (11, .int v11), (12, .int v12), (15, .int v15)]) hC dX6_steps_218 (by decide) rfl ?_
  refine r_iload hC dX6_steps_220 0 rfl ?_
  refine r_i2l hC dX6_steps_222 ?_
  refine r_aload_n hC dX6_steps_223 1 rfl ?_
  refine r_getr hC fd_RX6_16 dM_0 rfl dX6_steps_224 ?_
  refine r_bipush (v := 24) hC dX6_steps_227 (by decide) ?_
  refine r_iload_n hC dX6_steps_229 3 rfl ?_
  refine r_imul hC dX6_steps_230 ?_
  refine r_iload hC dX6_steps_231 4 rfl ?_
  refine r_iadd hC dX6_steps_233 ?_
  refine r_iload hC dX6_steps_234 11 rfl ?_
  refine r_iadd hC dX6_steps_236 ?_
  obtain ⟨g24, hf⟩ := og_in hf
  refine r_lald hC dM_3 g24 dX6_steps_237 ?_
  refine r_lcmp hC dX6_steps_238 ?_
  refine r_if_ne (tgt := 246) hC dX6_steps_239 (by decide) (fun c25 => ?_) (fun c25 => ?_)
  · have hf := ite_f c25 hf
    refine r_iconst (v := 0) hC dX6_steps_246 (by decide) ?_
    refine r_istore (lv' := [(13, .int 0), (14, .int s0), (0, .ref (G.1 0)), (1, .int v1), (3, .int v3), (5, .int v5), (6, .int v6), (7, .int v7), (9, .int v9), (10, .int v10), (11, .int v11), (12, .int v12), (15, .int v15)]) hC dX6_steps_247 (by decide) rfl ?_
    refine r_iinc (v := 1) (lv' := [(15, .int (v15 + 1)), (13, .int 0), (14, .int s0), (0, .ref (G.1 0)), (1, .int v1), (3, .int v3), (5, .int v5), (6, .int v6), (7, .int v7), (9, .int v9), (10, .int v10), (11, .int v11), (12, .int v12)]) hC dX6_steps_249 12 rfl (by decide) (by decide) rfl ?_
    refine r_goto (tgt := 162) hC dX6_steps_252 (by decide) ?_
    refine r_loc [3, 4, 5, 6, 7, 8, 9, 10, 11, 12, 1, 2, 0] rfl ?_
    exact hrec 0 s0 (v15 + 1) o hf hk
  · have hf := ite_t c25 hf
    refine r_iconst (v := 1) hC dX6_steps_242 (by decide) ?_
    refine r_goto (tgt := 247) hC dX6_steps_243 (by decide) ?_
    refine r_istore (lv' := [(13, .int 1), (14, .int s0), (0, .ref (G.1 0)), (1, .int v1), (3, .int v3), (5, .int v5), (6, .int v6), (7, .int v7), (9, .int v9), (10, .int v10), (11, .int v11), (12, .int v12), (15, .int v15)]) hC dX6_steps_247 (by decide) rfl ?_
    refine r_iinc (v := 1) (lv' := [(15, .int (v15 + 1)), (13, .int 1), (14, .int s0), (0, .ref (G.1 0)), (1, .int v1), (3, .int v3), (5, .int v5), (6, .int v6), (7, .int v7), (9, .int v9), (10, .int v10), (11, .int v11), (12, .int v12)]) hC dX6_steps_249 12 rfl (by decide) (by decide) rfl ?_
    refine r_goto (tgt := 162) hC dX6_steps_252 (by decide) ?_
    refine r_loc [3, 4, 5, 6, 7, 8, 9, 10, 11, 12, 1, 2, 0] rfl ?_
    exact hrec 1 s0 (v15 + 1) o hf hk
set_option maxHeartbeats 4000000 in
set_option maxRecDepth 100000 in
theorem t_X6_steps_L162_B {l : Launch} {G : zG} {X : zX} {K : Option Value → zS → Prop} (hC : zC G X cX6_steps 16 RX6 (some .int)) {N : Nat} {u : zS} {v1 : Int32} {v3 : Int32} {v5 : Int32} {v6 : Int32} {v7 : Int32} {v9 : Int32} {v10 : Int32} {v11 : Int32} {v12 : Int32} {rec : Int32 → Int32 → Int32 → Option (Int32)} (hrec : ∀ (v13 : Int32) (v14 : Int32) (v15 : Int32) (o : Int32), rec v13 v14 v15 = some o → zW dscM l rm_X6_steps G X K u 255 [(0, .ref (G.1 0)), (1, .int v1), (3, .int v3), (5, .int v5), (6, .int v6), (7, .int v7), (9, .int v9), (10, .int v10), (11, .int v11), (12, .int v12), (13, .int o)] [] → zW dscM l rm_X6_steps G X K u 162 [(0, .ref (G.1 0)), (1, .int v1), (3, .int v3), (5, .int v5), (6, .int v6), (7, .int v7), (9, .int v9), (10, .int v10), (11, .int v11), (12, .int v12), (13, .int v13), (14, .int v14), (15, .int v15)] []) : ∀ (v13 : Int32) (v14 : Int32) (v15 : Int32) (o : Int32), f_X6_steps_L162_B N u v1 v3 v5 v6 v7 v9 v10 v11 v12 rec v13 v14 v15 = some o → zW dscM l rm_X6_steps G X K u 255 [(0, .ref (G.1 0)), (1, .int v1), (3, .int v3), (5, .int v5), (6, .int v6), (7, .int v7), (9, .int v9), (10, .int v10), (11, .int v11), (12, .int v12), (13, .int o)] [] → zW dscM l rm_X6_steps G X K u 162 [(0, .ref (G.1 0)), (1, .int v1), (3, .int v3), (5, .int v5), (6, .int v6), (7, .int v7), (9, .int v9), (10, .int v10), (11, .int v11), (12, .int v12), (13, .int v13), (14, .int v14), (15, .int v15)] [] := by
  intro v13 v14 v15 o hf hk
  unfold f_X6_steps_L162_B at hf
  refine r_iload hC dX6_steps_162 12 rfl ?_
  refine r_iload hC dX6_steps_164 4 rfl ?_
  refine r_icmp_ge (tgt := 255) hC dX6_steps_166 (by decide) (fun c18 => ?_) (fun c18 => ?_)
  · have hf := ite_t c18 hf
    have hf := Option.some.inj hf
    subst hf
    refine r_loc [0, 1, 2, 3, 4, 5, 6, 7, 8, 9, 10] rfl ?_
    exact hk
  · have hf := ite_f c18 hf
    refine r_iload hC dX6_steps_169 10 rfl ?_
    refine r_if_eq (tgt := 255) hC dX6_steps_171 (by decide) (fun c19 => ?_) (fun c19 => ?_)
    · have hf := ite_t c19 hf
      have hf := Option.some.inj hf
      subst hf
      refine r_loc [0, 1, 2, 3, 4, 5, 6, 7, 8, 9, 10] rfl ?_
      exact hk
    · have hf := ite_f c19 hf
      refine r_aload_n hC dX6_steps_174 0 rfl ?_
      refine r_getr hC fd_RX6_7 dM_0 rfl dX6_steps_175 ?_
      refine r_iconst (v := 2) hC dX6_steps_178 (by decide) ?_
      refine r_ialdK (j := 2) hC dM_1 (inK (by decide)) dX6_steps_179 ?_
      refine r_if_ne (tgt := 188) hC dX6_steps_180 (by decide) (fun c20 => ?_) (fun c20 => ?_)
      · have hf := ite_f c20 hf
        refine r_aload_n hC dX6_steps_188 0 rfl ?_
        refine r_aload_n hC dX6_steps_189 0 rfl ?_
        refine r_getr hC fd_RX6_7 dM_0 rfl dX6_steps_190 ?_
        refine r_bipush (v := 23) hC dX6_steps_193 (by decide) ?_
        refine r_aload_n hC dX6_steps_195 0 rfl ?_
        refine r_getr hC fd_RX6_7 dM_0 rfl dX6_steps_196 ?_
        refine r_iconst (v := 3) hC dX6_steps_199 (by decide) ?_
        refine r_ialdK (j := 3) hC dM_1 (inK (by decide)) dX6_steps_200 ?_
        refine r_iload hC dX6_steps_201 12 rfl ?_
        refine r_iadd hC dX6_steps_203 ?_
        refine r_aload_n hC dX6_steps_204 0 rfl ?_
        refine r_getr hC fd_RX6_7 dM_0 rfl dX6_steps_205 ?_
        refine r_iconst (v := 2) hC dX6_steps_208 (by decide) ?_
        refine r_ialdK (j := 2) hC dM_1 (inK (by decide)) dX6_steps_209 ?_
        obtain ⟨g21, hf⟩ := og_ne hf
        refine r_irem (x := ((u.1 1 3) + v15)) (y := (u.1 1 2)) hC dX6_steps_210 g21 ?_
        refine r_iadd hC dX6_steps_211 ?_
        obtain ⟨g22, hf⟩ := og_in hf
        refine r_iald hC dM_1 g22 dX6_steps_212 ?_
        refine r_iload hC dX6_steps_213 11 rfl ?_
        obtain ⟨r23, er23, hf⟩ := ob_some hf
        refine r_cvi (As := [.int (u.1 1 (Int32.toNatClampNeg (23 + (((u.1 1 3) + v15) - ((u.1 1 3) + v15) / (u.1 1 2) * (u.1 1 2))))), .int v14]) (rest := []) hC (c_X6_leadsOf er23) yv_X6_leadsOf ml_RX6_67 dM_0 ⟨by decide, by decide, rfl, rfl⟩ rfl rfl (Nat.le_of_ble_eq_true rfl) dX6_steps_215 ?_
        refine r_loc [0, 1, 2, 3, 4, 5, 6, 7, 8, 9, 12] rfl ?_
        exact t_X6_steps_J218 hC hrec  v15 r23 o hf hk
      · have hf := ite_t c20 hf
        refine r_iload hC dX6_steps_183 11 rfl ?_
        refine r_goto (tgt := 218) hC dX6_steps_185 (by decide) ?_
        refine r_loc [0, 1, 2, 3, 4, 5, 6, 7, 8, 9, 12] rfl ?_
        exact t_X6_steps_J218 hC hrec  v15 v14 o hf hk
set_option maxHeartbeats 4000000 in
set_option maxRecDepth 100000 in
theorem t_X6_steps_L162 {l : Launch} {G : zG} {X : zX} {K : Option Value → zS → Prop} (hC : zC G X cX6_steps 16 RX6 (some .int)) {N : Nat} {u : zS} {v1 : Int32} {v3 : Int32} {v5 : Int32} {v6 : Int32} {v7 : Int32} {v9 : Int32} {v10 : Int32} {v11 : Int32} {v12 : Int32} : ∀ (n : Nat) (v13 : Int32) (v14 : Int32) (v15 : Int32) (o : Int32), f_X6_steps_L162 N u v1 v3 v5 v6 v7 v9 v10 v11 v12 n v13 v14 v15 = some o → zW dscM l rm_X6_steps G X K u 255 [(0, .ref (G.1 0)), (1, .int v1), (3, .int v3), (5, .int v5), (6, .int v6), (7, .int v7), (9, .int v9), (10, .int v10), (11, .int v11), (12, .int v12), (13, .int o)] [] → zW dscM l rm_X6_steps G X K u 162 [(0, .ref (G.1 0)), (1, .int v1), (3, .int v3), (5, .int v5), (6, .int v6), (7, .int v7), (9, .int v9), (10, .int v10), (11, .int v11), (12, .int v12), (13, .int v13), (14, .int v14), (15, .int v15)] [] := by
  intro n
  induction n with
  | zero => intro v13 v14 v15 o hf; cases hf
  | succ n ih => intro v13 v14 v15 o hf hk; exact t_X6_steps_L162_B hC (rec := f_X6_steps_L162 N u v1 v3 v5 v6 v7 v9 v10 v11 v12 n) ih v13 v14 v15 o hf hk
set_option maxHeartbeats 4000000 in
set_option maxRecDepth 100000 in
theorem t_X6_steps_J255 {l : Launch} {G : zG} {X : zX} {K : Option Value → zS → Prop} (hC : zC G X cX6_steps 16 RX6 (some .int)) {N : Nat} {v1 : Int32} {v3 : Int32} {v5 : Int32} {v6 : Int32} {v7 : Int32} {v9 : Int32} {v10 : Int32} {rec : zS → Int32 → Int32 → Option (Int32 × zS)} (hrec : ∀ (u : zS) (v11 : Int32) (v12 : Int32) (o : Int32 × zS), rec u v11 v12 = some o → zW dscM l rm_X6_steps G X K o.2 279 [(0, .ref (G.1 0)), (9, .int v9), (10, .int v10), (11, .int o.1)] [] → zW dscM l rm_X6_steps G X K u 121 [(0, .ref (G.1 0)), (1, .int v1), (3, .int v3), (5, .int v5), (6, .int v6), (7, .int v7), (9, .int v9), (10, .int v10), (11, .int v11), (12, .int v12)] []) : ∀ (u : zS) (v11 : Int32) (v12 : Int32) (v13 : Int32) (o : Int32 × zS), f_X6_steps_J255 N v1 v3 v5 v6 v7 v9 v10 rec u v11 v12 v13 = some o → zW dscM l rm_X6_steps G X K o.2 279 [(0, .ref (G.1 0)), (9, .int v9), (10, .int v10), (11, .int o.1)] [] → zW dscM l rm_X6_steps G X K u 255 [(0, .ref (G.1 0)), (1, .int v1), (3, .int v3), (5, .int v5), (6, .int v6), (7, .int v7), (9, .int v9), (10, .int v10), (11, .int v11), (12, .int v12), (13, .int v13)] [] := by
  intro u v11 v12 v13 o hf hk
  unfold f_X6_steps_J255 at hf
  refine r_iload hC dX6_steps_255 8 rfl ?_
  refine r_iload hC dX6_steps_257 10 rfl ?_
  refine r_if_eq (tgt := 269) hC dX6_steps_259 (by decide) (fun c27 => ?_) (fun c27 => ?_)
  · have hf := ite_t c27 hf
    refine r_iconst (v := 0) hC dX6_steps_269 (by decide) ?_
    refine r_ior hC dX6_steps_270 ?_
    refine r_istore (lv' := [(11, .int (v11 ||| 0)), (0, .ref (G.1 0)), (1, .int v1), (3, .int v3), (5, .int v5), (6, .int v6), (7, .int v7), (9, .int v9), (10, .int v10), (12, .int v12), (13, .int v13)]) hC dX6_steps_271 (by decide) rfl ?_
    refine r_iinc (v := 1) (lv' := [(12, .int (v12 + 1)), (11, .int (v11 ||| 0)), (0, .ref (G.1 0)), (1, .int v1), (3, .int v3), (5, .int v5), (6, .int v6), (7, .int v7), (9, .int v9), (10, .int v10), (13, .int v13)]) hC dX6_steps_273 9 rfl (by decide) (by decide) rfl ?_
    refine r_goto (tgt := 121) hC dX6_steps_276 (by decide) ?_
    refine r_loc [2, 3, 4, 5, 6, 7, 8, 9, 1, 0] rfl ?_
    exact hrec u (v11 ||| 0) (v12 + 1) o hf hk
  · have hf := ite_f c27 hf
    refine r_iconst (v := 1) hC dX6_steps_262 (by decide) ?_
    refine r_iload hC dX6_steps_263 9 rfl ?_
    refine r_ishl (x := 1) (y := v12) hC dX6_steps_265 ?_
    refine r_goto (tgt := 270) hC dX6_steps_266 (by decide) ?_
    refine r_ior hC dX6_steps_270 ?_
    refine r_topi (fun w28 ew28 => ?_)
    have hf := olet_at ew28 hf
    refine r_istore (lv' := [(11, .int w28), (0, .ref (G.1 0)), (1, .int v1), (3, .int v3), (5, .int v5), (6, .int v6), (7, .int v7), (9, .int v9), (10, .int v10), (12, .int v12), (13, .int v13)]) hC dX6_steps_271 (by decide) rfl ?_
    refine r_iinc (v := 1) (lv' := [(12, .int (v12 + 1)), (11, .int w28), (0, .ref (G.1 0)), (1, .int v1), (3, .int v3), (5, .int v5), (6, .int v6), (7, .int v7), (9, .int v9), (10, .int v10), (13, .int v13)]) hC dX6_steps_273 9 rfl (by decide) (by decide) rfl ?_
    refine r_goto (tgt := 121) hC dX6_steps_276 (by decide) ?_
    refine r_loc [2, 3, 4, 5, 6, 7, 8, 9, 1, 0] rfl ?_
    exact hrec u w28 (v12 + 1) o hf hk
set_option maxHeartbeats 4000000 in
set_option maxRecDepth 100000 in
theorem t_X6_steps_J134 {l : Launch} {G : zG} {X : zX} {K : Option Value → zS → Prop} (hC : zC G X cX6_steps 16 RX6 (some .int)) {N : Nat} {v1 : Int32} {v3 : Int32} {v5 : Int32} {v6 : Int32} {v7 : Int32} {v9 : Int32} {v10 : Int32} {rec : zS → Int32 → Int32 → Option (Int32 × zS)} (hrec : ∀ (u : zS) (v11 : Int32) (v12 : Int32) (o : Int32 × zS), rec u v11 v12 = some o → zW dscM l rm_X6_steps G X K o.2 279 [(0, .ref (G.1 0)), (9, .int v9), (10, .int v10), (11, .int o.1)] [] → zW dscM l rm_X6_steps G X K u 121 [(0, .ref (G.1 0)), (1, .int v1), (3, .int v3), (5, .int v5), (6, .int v6), (7, .int v7), (9, .int v9), (10, .int v10), (11, .int v11), (12, .int v12)] []) : ∀ (u : zS) (v11 : Int32) (v12 : Int32) (s0 : Int32) (s1 : Int32) (o : Int32 × zS), f_X6_steps_J134 N v1 v3 v5 v6 v7 v9 v10 rec u v11 v12 s0 s1 = some o → zW dscM l rm_X6_steps G X K o.2 279 [(0, .ref (G.1 0)), (9, .int v9), (10, .int v10), (11, .int o.1)] [] → zW dscM l rm_X6_steps G X K u 134 [(0, .ref (G.1 0)), (1, .int v1), (3, .int v3), (5, .int v5), (6, .int v6), (7, .int v7), (9, .int v9), (10, .int v10), (11, .int v11), (12, .int v12)] [.int s1, .int s0] := by
  intro u v11 v12 s0 s1 o hf hk
  unfold f_X6_steps_J134 at hf
  refine r_icmp_gt (tgt := 279) hC dX6_steps_134 (by decide) (fun c13 => ?_) (fun c13 => ?_)
  · have hf := ite_t c13 hf
    have hf := Option.some.inj hf
    subst hf
    refine r_loc [0, 6, 7, 8] rfl ?_
    exact hk
  · have hf := ite_f c13 hf
    refine r_aload_n hC dX6_steps_137 0 rfl ?_
    refine r_getr hC fd_RX6_7 dM_0 rfl dX6_steps_138 ?_
    refine r_iload hC dX6_steps_141 6 rfl ?_
    refine r_iload hC dX6_steps_143 9 rfl ?_
    obtain ⟨g14, hf⟩ := og_in hf
    refine r_iast hC dM_1 g14 dX6_steps_145 ?_
    refine r_tops (fun u15 eu15 => ?_)
    have hf := olet_at eu15 hf
    refine r_iconst (v := 1) hC dX6_steps_146 (by decide) ?_
    refine r_istore (lv' := [(13, .int 1), (0, .ref (G.1 0)), (1, .int v1), (3, .int v3), (5, .int v5), (6, .int v6), (7, .int v7), (9, .int v9), (10, .int v10), (11, .int v11), (12, .int v12)]) hC dX6_steps_147 (by decide) rfl ?_
    refine r_aload_n hC dX6_steps_149 1 rfl ?_
    refine r_getr hC fd_RX6_7 dM_0 rfl dX6_steps_150 ?_
    refine r_iconst (v := 5) hC dX6_steps_153 (by decide) ?_
    refine r_iload_n hC dX6_steps_154 2 rfl ?_
    refine r_iadd hC dX6_steps_155 ?_
    obtain ⟨g16, hf⟩ := og_in hf
    refine r_iald hC dM_1 g16 dX6_steps_156 ?_
    refine r_topi (fun w17 ew17 => ?_)
    have hf := olet_at ew17 hf
    refine r_istore (lv' := [(14, .int w17), (13, .int 1), (0, .ref (G.1 0)), (1, .int v1), (3, .int v3), (5, .int v5), (6, .int v6), (7, .int v7), (9, .int v9), (10, .int v10), (11, .int v11), (12, .int v12)]) hC dX6_steps_157 (by decide) rfl ?_
    refine r_iconst (v := 0) hC dX6_steps_159 (by decide) ?_
    refine r_istore (lv' := [(15, .int 0), (14, .int w17), (13, .int 1), (0, .ref (G.1 0)), (1, .int v1), (3, .int v3), (5, .int v5), (6, .int v6), (7, .int v7), (9, .int v9), (10, .int v10), (11, .int v11), (12, .int v12)]) hC dX6_steps_160 (by decide) rfl ?_
    refine r_loc [3, 4, 5, 6, 7, 8, 9, 10, 11, 12, 2, 1, 0] rfl ?_
    obtain ⟨q26, eq26, hf⟩ := ob_some hf
    refine t_X6_steps_L162 hC N 1 w17 0 q26 eq26 ?_
    exact t_X6_steps_J255 hC hrec  u15 v11 v12 q26 o hf hk
set_option maxHeartbeats 4000000 in
set_option maxRecDepth 100000 in
theorem t_X6_steps_L121_B {l : Launch} {G : zG} {X : zX} {K : Option Value → zS → Prop} (hC : zC G X cX6_steps 16 RX6 (some .int)) {N : Nat} {v1 : Int32} {v3 : Int32} {v5 : Int32} {v6 : Int32} {v7 : Int32} {v9 : Int32} {v10 : Int32} {rec : zS → Int32 → Int32 → Option (Int32 × zS)} (hrec : ∀ (u : zS) (v11 : Int32) (v12 : Int32) (o : Int32 × zS), rec u v11 v12 = some o → zW dscM l rm_X6_steps G X K o.2 279 [(0, .ref (G.1 0)), (9, .int v9), (10, .int v10), (11, .int o.1)] [] → zW dscM l rm_X6_steps G X K u 121 [(0, .ref (G.1 0)), (1, .int v1), (3, .int v3), (5, .int v5), (6, .int v6), (7, .int v7), (9, .int v9), (10, .int v10), (11, .int v11), (12, .int v12)] []) : ∀ (u : zS) (v11 : Int32) (v12 : Int32) (o : Int32 × zS), f_X6_steps_L121_B N v1 v3 v5 v6 v7 v9 v10 rec u v11 v12 = some o → zW dscM l rm_X6_steps G X K o.2 279 [(0, .ref (G.1 0)), (9, .int v9), (10, .int v10), (11, .int o.1)] [] → zW dscM l rm_X6_steps G X K u 121 [(0, .ref (G.1 0)), (1, .int v1), (3, .int v3), (5, .int v5), (6, .int v6), (7, .int v7), (9, .int v9), (10, .int v10), (11, .int v11), (12, .int v12)] [] := by
  intro u v11 v12 o hf hk
  unfold f_X6_steps_L121_B at hf
  refine r_iload hC dX6_steps_121 9 rfl ?_
  refine r_iload hC dX6_steps_123 5 rfl ?_
  refine r_if_ne (tgt := 132) hC dX6_steps_125 (by decide) (fun c12 => ?_) (fun c12 => ?_)
  · have hf := ite_f c12 hf
    refine r_bipush (v := 7) hC dX6_steps_132 (by decide) ?_
    exact t_X6_steps_J134 hC hrec  u v11 v12 v12 7 o hf hk
  · have hf := ite_t c12 hf
    refine r_iconst (v := 4) hC dX6_steps_128 (by decide) ?_
    refine r_goto (tgt := 134) hC dX6_steps_129 (by decide) ?_
    exact t_X6_steps_J134 hC hrec  u v11 v12 v12 4 o hf hk
set_option maxHeartbeats 4000000 in
set_option maxRecDepth 100000 in
theorem t_X6_steps_L121 {l : Launch} {G : zG} {X : zX} {K : Option Value → zS → Prop} (hC : zC G X cX6_steps 16 RX6 (some .int)) {N : Nat} {v1 : Int32} {v3 : Int32} {v5 : Int32} {v6 : Int32} {v7 : Int32} {v9 : Int32} {v10 : Int32} : ∀ (n : Nat) (u : zS) (v11 : Int32) (v12 : Int32) (o : Int32 × zS), f_X6_steps_L121 N v1 v3 v5 v6 v7 v9 v10 n u v11 v12 = some o → zW dscM l rm_X6_steps G X K o.2 279 [(0, .ref (G.1 0)), (9, .int v9), (10, .int v10), (11, .int o.1)] [] → zW dscM l rm_X6_steps G X K u 121 [(0, .ref (G.1 0)), (1, .int v1), (3, .int v3), (5, .int v5), (6, .int v6), (7, .int v7), (9, .int v9), (10, .int v10), (11, .int v11), (12, .int v12)] [] := by
  intro n
  induction n with
  | zero => intro u v11 v12 o hf; cases hf
  | succ n ih => intro u v11 v12 o hf hk; exact t_X6_steps_L121_B hC (rec := f_X6_steps_L121 N v1 v3 v5 v6 v7 v9 v10 n) ih u v11 v12 o hf hk
set_option maxHeartbeats 4000000 in
set_option maxRecDepth 100000 in
theorem t_X6_steps_J104 {l : Launch} {G : zG} {X : zX} {K : Option Value → zS → Prop} (hC : zC G X cX6_steps 16 RX6 (some .int)) {N : Nat} : ∀ (u : zS) (v1 : Int32) (v3 : Int32) (v5 : Int32) (v6 : Int32) (v7 : Int32) (s0 : Int32) (o : Int32 × zS), f_X6_steps_J104 N u v1 v3 v5 v6 v7 s0 = some o → K (some (.int o.1)) o.2 → zW dscM l rm_X6_steps G X K u 104 [(0, .ref (G.1 0)), (1, .int v1), (3, .int v3), (5, .int v5), (6, .int v6), (7, .int v7)] [.int s0] := by
  intro u v1 v3 v5 v6 v7 s0 o hf hk
  unfold f_X6_steps_J104 at hf
  refine r_istore (lv' := [(9, .int s0), (0, .ref (G.1 0)), (1, .int v1), (3, .int v3), (5, .int v5), (6, .int v6), (7, .int v7)]) hC dX6_steps_104 (by decide) rfl ?_
  refine r_aload_n hC dX6_steps_106 1 rfl ?_
  refine r_getr hC fd_RX6_7 dM_0 rfl dX6_steps_107 ?_
  refine r_iload hC dX6_steps_110 0 rfl ?_
  obtain ⟨g11, hf⟩ := og_in hf
  refine r_iald hC dM_1 g11 dX6_steps_112 ?_
  refine r_istore (lv' := [(10, .int (u.1 1 (Int32.toNatClampNeg s0))), (9, .int s0), (0, .ref (G.1 0)), (1, .int v1), (3, .int v3), (5, .int v5), (6, .int v6), (7, .int v7)]) hC dX6_steps_113 (by decide) rfl ?_
  refine r_iconst (v := 0) hC dX6_steps_115 (by decide) ?_
  refine r_istore (lv' := [(11, .int 0), (10, .int (u.1 1 (Int32.toNatClampNeg s0))), (9, .int s0), (0, .ref (G.1 0)), (1, .int v1), (3, .int v3), (5, .int v5), (6, .int v6), (7, .int v7)]) hC dX6_steps_116 (by decide) rfl ?_
  refine r_iconst (v := 0) hC dX6_steps_118 (by decide) ?_
  refine r_istore (lv' := [(12, .int 0), (11, .int 0), (10, .int (u.1 1 (Int32.toNatClampNeg s0))), (9, .int s0), (0, .ref (G.1 0)), (1, .int v1), (3, .int v3), (5, .int v5), (6, .int v6), (7, .int v7)]) hC dX6_steps_119 (by decide) rfl ?_
  refine r_loc [4, 5, 6, 7, 8, 9, 3, 2, 1, 0] rfl ?_
  obtain ⟨q29, eq29, hf⟩ := ob_some hf
  refine t_X6_steps_L121 hC N u 0 0 q29 eq29 ?_
  refine r_aload_n hC dX6_steps_279 0 rfl ?_
  refine r_getr hC fd_RX6_7 dM_0 rfl dX6_steps_280 ?_
  refine r_iload hC dX6_steps_283 1 rfl ?_
  refine r_iload hC dX6_steps_285 2 rfl ?_
  obtain ⟨g30, hf⟩ := og_in hf
  refine r_iast hC dM_1 g30 dX6_steps_287 ?_
  refine r_tops (fun u31 eu31 => ?_)
  have hf := olet_at eu31 hf
  refine r_iload hC dX6_steps_288 3 rfl ?_
  have hf := Option.some.inj hf
  subst hf
  exact r_iret hC dX6_steps_290 hk
set_option maxHeartbeats 4000000 in
set_option maxRecDepth 100000 in
theorem t_X6_steps {l : Launch} {G : zG} {X : zX} {K : Option Value → zS → Prop} (hC : zC G X cX6_steps 16 RX6 (some .int)) {N : Nat} {u : zS} {v1 : Int32} {v2 : Int32} {v3 : Int32} {v4 : Int32} {v5 : Int32} {v6 : Int32} {v7 : Int32} (o : Int32 × zS) (hf : f_X6_steps N u v1 v2 v3 v4 v5 v6 v7 = some o) (hk : K (some (.int o.1)) o.2) : zW dscM l rm_X6_steps G X K u 0 [(0, .ref (G.1 0)), (1, .int v1), (2, .int v2), (3, .int v3), (4, .int v4), (5, .int v5), (6, .int v6), (7, .int v7)] [] := by
  unfold f_X6_steps at hf
  refine r_aload_n hC dX6_steps_0 0 rfl ?_
  refine r_iload_n hC dX6_steps_1 1 rfl ?_
  refine r_cvi (As := [.int v1]) (rest := []) hC c_X6_isAngel yv_X6_isAngel ml_RX6_100 dM_0 ⟨by decide, by decide, rfl, rfl⟩ rfl rfl (Nat.le_of_ble_eq_true rfl) dX6_steps_2 ?_
  refine r_if_eq (tgt := 49) hC dX6_steps_5 (by decide) (fun c1 => ?_) (fun c1 => ?_)
  · have hf := ite_t c1 hf
    refine r_iconst (v := (-1)) hC dX6_steps_49 (by decide) ?_
    have hf := Option.some.inj hf
    subst hf
    exact r_iret hC dX6_steps_50 hk
  · have hf := ite_f c1 hf
    refine r_aload_n hC dX6_steps_8 0 rfl ?_
    refine r_iload_n hC dX6_steps_9 2 rfl ?_
    refine r_cvi (As := [.int v2]) (rest := []) hC c_X6_isFigure yv_X6_isFigure ml_RX6_87 dM_0 ⟨by decide, by decide, rfl, rfl⟩ rfl rfl (Nat.le_of_ble_eq_true rfl) dX6_steps_10 ?_
    refine r_if_eq (tgt := 49) hC dX6_steps_13 (by decide) (fun c2 => ?_) (fun c2 => ?_)
    · have hf := ite_t c2 hf
      refine r_iconst (v := (-1)) hC dX6_steps_49 (by decide) ?_
      have hf := Option.some.inj hf
      subst hf
      exact r_iret hC dX6_steps_50 hk
    · have hf := ite_f c2 hf
      refine r_iload_n hC dX6_steps_16 3 rfl ?_
      refine r_iload hC dX6_steps_17 4 rfl ?_
      refine r_csi (As := [.int v3, .int v4]) (rest := []) hC c_X6_isLane ys_X6_isLane ml_RX6_208 ⟨by decide, by decide, rfl, rfl⟩ rfl rfl (Nat.le_of_ble_eq_true rfl) dX6_steps_19 ?_
      refine r_if_eq (tgt := 49) hC dX6_steps_22 (by decide) (fun c3 => ?_) (fun c3 => ?_)
      · have hf := ite_t c3 hf
        refine r_iconst (v := (-1)) hC dX6_steps_49 (by decide) ?_
        have hf := Option.some.inj hf
        subst hf
        exact r_iret hC dX6_steps_50 hk
      · have hf := ite_f c3 hf
        refine r_iload hC dX6_steps_25 6 rfl ?_
        refine r_i2l hC dX6_steps_27 ?_
        refine r_lconst (v := 1) hC dX6_steps_28 (by decide) ?_
        refine r_ldc2 hC cn_RX6_197 dX6_steps_29 ?_
        refine r_csi (As := [.long (Int32.toInt64 v6), .long 1, .long 8]) (rest := []) hC c_X6_in ys_X6_in ml_RX6_52 ⟨by decide, by decide, rfl, rfl⟩ rfl rfl (Nat.le_of_ble_eq_true rfl) dX6_steps_32 ?_
        refine r_if_eq (tgt := 49) hC dX6_steps_35 (by decide) (fun c4 => ?_) (fun c4 => ?_)
        · have hf := ite_t c4 hf
          refine r_iconst (v := (-1)) hC dX6_steps_49 (by decide) ?_
          have hf := Option.some.inj hf
          subst hf
          exact r_iret hC dX6_steps_50 hk
        · have hf := ite_f c4 hf
          refine r_iload hC dX6_steps_38 7 rfl ?_
          refine r_i2l hC dX6_steps_40 ?_
          refine r_lconst (v := 0) hC dX6_steps_41 (by decide) ?_
          refine r_lconst (v := 1) hC dX6_steps_42 (by decide) ?_
          refine r_csi (As := [.long (Int32.toInt64 v7), .long 0, .long 1]) (rest := []) hC c_X6_in ys_X6_in ml_RX6_52 ⟨by decide, by decide, rfl, rfl⟩ rfl rfl (Nat.le_of_ble_eq_true rfl) dX6_steps_43 ?_
          refine r_if_ne (tgt := 51) hC dX6_steps_46 (by decide) (fun c5 => ?_) (fun c5 => ?_)
          · have hf := ite_f c5 hf
            refine r_aload_n hC dX6_steps_51 0 rfl ?_
            refine r_iload_n hC dX6_steps_52 3 rfl ?_
            refine r_iload hC dX6_steps_53 4 rfl ?_
            refine r_iload hC dX6_steps_55 5 rfl ?_
            refine r_iload hC dX6_steps_57 6 rfl ?_
            obtain ⟨r6, er6, hf⟩ := ob_some hf
            refine r_cvi (As := [.int v3, .int v4, .int v5, .int v6]) (rest := []) hC (c_X6_against er6) yv_X6_against ml_RX6_213 dM_0 ⟨by decide, by decide, rfl, rfl⟩ rfl rfl (Nat.le_of_ble_eq_true rfl) dX6_steps_59 ?_
            refine r_istore (lv' := [(8, .int r6), (0, .ref (G.1 0)), (1, .int v1), (2, .int v2), (3, .int v3), (4, .int v4), (5, .int v5), (6, .int v6), (7, .int v7)]) hC dX6_steps_62 (by decide) rfl ?_
            refine r_iload hC dX6_steps_64 0 rfl ?_
            refine r_if_ge (tgt := 72) hC dX6_steps_66 (by decide) (fun c7 => ?_) (fun c7 => ?_)
            · have hf := ite_t c7 hf
              refine r_aload_n hC dX6_steps_72 1 rfl ?_
              refine r_getr hC fd_RX6_7 dM_0 rfl dX6_steps_73 ?_
              refine r_iconst (v := 5) hC dX6_steps_76 (by decide) ?_
              refine r_iload_n hC dX6_steps_77 2 rfl ?_
              refine r_iadd hC dX6_steps_78 ?_
              obtain ⟨g8, hf⟩ := og_in hf
              refine r_iald hC dM_1 g8 dX6_steps_79 ?_
              refine r_bipush (v := (-4)) hC dX6_steps_80 (by decide) ?_
              refine r_icmp_ne (tgt := 88) hC dX6_steps_82 (by decide) (fun c9 => ?_) (fun c9 => ?_)
              · have hf := ite_f c9 hf
                refine r_iload hC dX6_steps_88 8 rfl ?_
                refine r_if_ne (tgt := 100) hC dX6_steps_90 (by decide) (fun c10 => ?_) (fun c10 => ?_)
                · have hf := ite_f c10 hf
                  refine r_bipush (v := 18) hC dX6_steps_100 (by decide) ?_
                  refine r_iload_n hC dX6_steps_102 3 rfl ?_
                  refine r_iadd hC dX6_steps_103 ?_
                  refine r_loc [1, 2, 4, 6, 7, 8] rfl ?_
                  exact t_X6_steps_J104 hC  u v1 v3 v5 v6 v7 (18 + v2) o hf hk
                · have hf := ite_t c10 hf
                  refine r_bipush (v := 13) hC dX6_steps_93 (by decide) ?_
                  refine r_iload_n hC dX6_steps_95 3 rfl ?_
                  refine r_iadd hC dX6_steps_96 ?_
                  refine r_goto (tgt := 104) hC dX6_steps_97 (by decide) ?_
                  refine r_loc [1, 2, 4, 6, 7, 8] rfl ?_
                  exact t_X6_steps_J104 hC  u v1 v3 v5 v6 v7 (13 + v2) o hf hk
              · have hf := ite_t c9 hf
                refine r_bipush (v := (-2)) hC dX6_steps_85 (by decide) ?_
                have hf := Option.some.inj hf
                subst hf
                exact r_iret hC dX6_steps_87 hk
            · have hf := ite_f c7 hf
              refine r_iload hC dX6_steps_69 0 rfl ?_
              have hf := Option.some.inj hf
              subst hf
              exact r_iret hC dX6_steps_71 hk
          · have hf := ite_t c5 hf
            refine r_iconst (v := (-1)) hC dX6_steps_49 (by decide) ?_
            have hf := Option.some.inj hf
            subst hf
            exact r_iret hC dX6_steps_50 hk
set_option maxHeartbeats 4000000 in
set_option maxRecDepth 100000 in
theorem c_X6_steps {l : Launch} {G : zG} {N : Nat} {u : zS} {v1 : Int32} {v2 : Int32} {v3 : Int32} {v4 : Int32} {v5 : Int32} {v6 : Int32} {v7 : Int32} {r : Int32 × zS} (hf : f_X6_steps N u v1 v2 v3 v4 v5 v6 v7 = some r) : zM l dscM yX6_steps cX6_steps 16 (some .int) rm_X6_steps G [.ref (G.1 0), .int v1, .int v2, .int v3, .int v4, .int v5, .int v6, .int v7] u (some (.int r.1)) r.2 := zM.of (by decide) (Nat.le_of_ble_eq_true rfl) (fun X hC => t_X6_steps hC r hf ⟨rfl, rfl⟩)
set_option maxHeartbeats 4000000 in
set_option maxRecDepth 100000 in
theorem t_X6_film_L54_B {l : Launch} {G : zG} {X : zX} {K : Option Value → zS → Prop} (hC : zC G X cX6_film 8 RX6 (some .int)) {N : Nat} {v1 : Int32} {v2 : Int32} {v3 : Int32} {v5 : Int32} {rec : zS → Int32 → Option (zS)} (hrec : ∀ (u : zS) (v7 : Int32) (o : zS), rec u v7 = some o → zW dscM l rm_X6_film G X K o 98 [(2, .int v2)] [] → zW dscM l rm_X6_film G X K u 54 [(0, .ref (G.1 0)), (1, .int v1), (2, .int v2), (3, .int v3), (5, .int v5), (7, .int v7)] []) : ∀ (u : zS) (v7 : Int32) (o : zS), f_X6_film_L54_B N v1 v2 v3 v5 rec u v7 = some o → zW dscM l rm_X6_film G X K o 98 [(2, .int v2)] [] → zW dscM l rm_X6_film G X K u 54 [(0, .ref (G.1 0)), (1, .int v1), (2, .int v2), (3, .int v3), (5, .int v5), (7, .int v7)] [] := by
  intro u v7 o hf hk
  unfold f_X6_film_L54_B at hf
  refine r_iload hC dX6_film_54 5 rfl ?_
  refine r_iload_n hC dX6_film_56 2 rfl ?_
  refine r_icmp_ge (tgt := 98) hC dX6_film_57 (by decide) (fun c6 => ?_) (fun c6 => ?_)
  · have hf := ite_t c6 hf
    have hf := Option.some.inj hf
    subst hf
    refine r_loc [2] rfl ?_
    exact hk
  · have hf := ite_f c6 hf
    refine r_aload_n hC dX6_film_60 0 rfl ?_
    refine r_getr hC fd_RX6_16 dM_0 rfl dX6_film_61 ?_
    refine r_bipush (v := 24) hC dX6_film_64 (by decide) ?_
    refine r_iload_n hC dX6_film_66 3 rfl ?_
    refine r_imul hC dX6_film_67 ?_
    refine r_iload hC dX6_film_68 4 rfl ?_
    refine r_iadd hC dX6_film_70 ?_
    refine r_iload hC dX6_film_71 5 rfl ?_
    refine r_iadd hC dX6_film_73 ?_
    refine r_aload_n hC dX6_film_74 0 rfl ?_
    refine r_aload_n hC dX6_film_75 0 rfl ?_
    refine r_getr hC fd_RX6_7 dM_0 rfl dX6_film_76 ?_
    refine r_iconst (v := 5) hC dX6_film_79 (by decide) ?_
    refine r_iload_n hC dX6_film_80 1 rfl ?_
    refine r_iadd hC dX6_film_81 ?_
    obtain ⟨g7, hf⟩ := og_in hf
    refine r_iald hC dM_1 g7 dX6_film_82 ?_
    refine r_iload hC dX6_film_83 5 rfl ?_
    refine r_iconst (v := 1) hC dX6_film_85 (by decide) ?_
    refine r_iadd hC dX6_film_86 ?_
    obtain ⟨r8, er8, hf⟩ := ob_some hf
    refine r_cvi (As := [.int (u.1 1 (Int32.toNatClampNeg (5 + v1))), .int (v7 + 1)]) (rest := [.int (((24 * v3) + v5) + v7), .ref (G.1 3)]) hC (c_X6_behind er8) yv_X6_behind ml_RX6_179 dM_0 ⟨by decide, by decide, rfl, rfl⟩ rfl rfl (Nat.le_of_ble_eq_true rfl) dX6_film_87 ?_
    refine r_i2l hC dX6_film_90 ?_
    obtain ⟨g9, hf⟩ := og_in hf
    refine r_last hC dM_3 g9 dX6_film_91 ?_
    refine r_tops (fun u10 eu10 => ?_)
    have hf := olet_at eu10 hf
    refine r_iinc (v := 1) (lv' := [(7, .int (v7 + 1)), (0, .ref (G.1 0)), (1, .int v1), (2, .int v2), (3, .int v3), (5, .int v5)]) hC dX6_film_92 5 rfl (by decide) (by decide) rfl ?_
    refine r_goto (tgt := 54) hC dX6_film_95 (by decide) ?_
    refine r_loc [1, 2, 3, 4, 5, 0] rfl ?_
    exact hrec u10 (v7 + 1) o hf hk
set_option maxHeartbeats 4000000 in
set_option maxRecDepth 100000 in
theorem t_X6_film_L54 {l : Launch} {G : zG} {X : zX} {K : Option Value → zS → Prop} (hC : zC G X cX6_film 8 RX6 (some .int)) {N : Nat} {v1 : Int32} {v2 : Int32} {v3 : Int32} {v5 : Int32} : ∀ (n : Nat) (u : zS) (v7 : Int32) (o : zS), f_X6_film_L54 N v1 v2 v3 v5 n u v7 = some o → zW dscM l rm_X6_film G X K o 98 [(2, .int v2)] [] → zW dscM l rm_X6_film G X K u 54 [(0, .ref (G.1 0)), (1, .int v1), (2, .int v2), (3, .int v3), (5, .int v5), (7, .int v7)] [] := by
  intro n
  induction n with
  | zero => intro u v7 o hf; cases hf
  | succ n ih => intro u v7 o hf hk; exact t_X6_film_L54_B hC (rec := f_X6_film_L54 N v1 v2 v3 v5 n) ih u v7 o hf hk
set_option maxHeartbeats 4000000 in
set_option maxRecDepth 100000 in
theorem t_X6_film {l : Launch} {G : zG} {X : zX} {K : Option Value → zS → Prop} (hC : zC G X cX6_film 8 RX6 (some .int)) {N : Nat} {u : zS} {v1 : Int32} {v2 : Int32} {v3 : Int32} {v4 : Int32} {v5 : Int32} (o : Int32 × zS) (hf : f_X6_film N u v1 v2 v3 v4 v5 = some o) (hk : K (some (.int o.1)) o.2) : zW dscM l rm_X6_film G X K u 0 [(0, .ref (G.1 0)), (1, .int v1), (2, .int v2), (3, .int v3), (4, .int v4), (5, .int v5)] [] := by
  unfold f_X6_film at hf
  refine r_aload_n hC dX6_film_0 0 rfl ?_
  refine r_iload_n hC dX6_film_1 1 rfl ?_
  refine r_cvi (As := [.int v1]) (rest := []) hC c_X6_isAngel yv_X6_isAngel ml_RX6_100 dM_0 ⟨by decide, by decide, rfl, rfl⟩ rfl rfl (Nat.le_of_ble_eq_true rfl) dX6_film_2 ?_
  refine r_if_eq (tgt := 29) hC dX6_film_5 (by decide) (fun c1 => ?_) (fun c1 => ?_)
  · have hf := ite_t c1 hf
    refine r_iconst (v := (-1)) hC dX6_film_29 (by decide) ?_
    have hf := Option.some.inj hf
    subst hf
    exact r_iret hC dX6_film_30 hk
  · have hf := ite_f c1 hf
    refine r_iload_n hC dX6_film_8 2 rfl ?_
    refine r_i2l hC dX6_film_9 ?_
    refine r_lconst (v := 1) hC dX6_film_10 (by decide) ?_
    refine r_ldc2 hC cn_RX6_217 dX6_film_11 ?_
    refine r_csi (As := [.long (Int32.toInt64 v2), .long 1, .long 24]) (rest := []) hC c_X6_in ys_X6_in ml_RX6_52 ⟨by decide, by decide, rfl, rfl⟩ rfl rfl (Nat.le_of_ble_eq_true rfl) dX6_film_14 ?_
    refine r_if_eq (tgt := 29) hC dX6_film_17 (by decide) (fun c2 => ?_) (fun c2 => ?_)
    · have hf := ite_t c2 hf
      refine r_iconst (v := (-1)) hC dX6_film_29 (by decide) ?_
      have hf := Option.some.inj hf
      subst hf
      exact r_iret hC dX6_film_30 hk
    · have hf := ite_f c2 hf
      refine r_iload_n hC dX6_film_20 3 rfl ?_
      refine r_iload hC dX6_film_21 4 rfl ?_
      refine r_csi (As := [.int v3, .int v4]) (rest := []) hC c_X6_isLane ys_X6_isLane ml_RX6_208 ⟨by decide, by decide, rfl, rfl⟩ rfl rfl (Nat.le_of_ble_eq_true rfl) dX6_film_23 ?_
      refine r_if_ne (tgt := 31) hC dX6_film_26 (by decide) (fun c3 => ?_) (fun c3 => ?_)
      · have hf := ite_f c3 hf
        refine r_aload_n hC dX6_film_31 0 rfl ?_
        refine r_iload_n hC dX6_film_32 3 rfl ?_
        refine r_iload hC dX6_film_33 4 rfl ?_
        refine r_iload hC dX6_film_35 5 rfl ?_
        refine r_iload_n hC dX6_film_37 2 rfl ?_
        obtain ⟨r4, er4, hf⟩ := ob_some hf
        refine r_cvi (As := [.int v3, .int v4, .int v5, .int v2]) (rest := []) hC (c_X6_against er4) yv_X6_against ml_RX6_213 dM_0 ⟨by decide, by decide, rfl, rfl⟩ rfl rfl (Nat.le_of_ble_eq_true rfl) dX6_film_38 ?_
        refine r_istore (lv' := [(6, .int r4), (0, .ref (G.1 0)), (1, .int v1), (2, .int v2), (3, .int v3), (4, .int v4), (5, .int v5)]) hC dX6_film_41 (by decide) rfl ?_
        refine r_iload hC dX6_film_43 0 rfl ?_
        refine r_if_ge (tgt := 51) hC dX6_film_45 (by decide) (fun c5 => ?_) (fun c5 => ?_)
        · have hf := ite_t c5 hf
          refine r_iconst (v := 0) hC dX6_film_51 (by decide) ?_
          refine r_istore (lv' := [(7, .int 0), (6, .int r4), (0, .ref (G.1 0)), (1, .int v1), (2, .int v2), (3, .int v3), (4, .int v4), (5, .int v5)]) hC dX6_film_52 (by decide) rfl ?_
          refine r_loc [2, 3, 4, 5, 7, 0] rfl ?_
          obtain ⟨q11, eq11, hf⟩ := ob_some hf
          refine t_X6_film_L54 hC N u 0 q11 eq11 ?_
          refine r_iload_n hC dX6_film_98 0 rfl ?_
          have hf := Option.some.inj hf
          subst hf
          exact r_iret hC dX6_film_99 hk
        · have hf := ite_f c5 hf
          refine r_iload hC dX6_film_48 0 rfl ?_
          have hf := Option.some.inj hf
          subst hf
          exact r_iret hC dX6_film_50 hk
      · have hf := ite_t c3 hf
        refine r_iconst (v := (-1)) hC dX6_film_29 (by decide) ?_
        have hf := Option.some.inj hf
        subst hf
        exact r_iret hC dX6_film_30 hk
set_option maxHeartbeats 4000000 in
set_option maxRecDepth 100000 in
theorem c_X6_film {l : Launch} {G : zG} {N : Nat} {u : zS} {v1 : Int32} {v2 : Int32} {v3 : Int32} {v4 : Int32} {v5 : Int32} {r : Int32 × zS} (hf : f_X6_film N u v1 v2 v3 v4 v5 = some r) : zM l dscM yX6_film cX6_film 8 (some .int) rm_X6_film G [.ref (G.1 0), .int v1, .int v2, .int v3, .int v4, .int v5] u (some (.int r.1)) r.2 := zM.of (by decide) (Nat.le_of_ble_eq_true rfl) (fun X hC => t_X6_film hC r hf ⟨rfl, rfl⟩)
set_option maxHeartbeats 4000000 in
set_option maxRecDepth 100000 in
theorem t_X6_sheet_L40_B {l : Launch} {G : zG} {X : zX} {K : Option Value → zS → Prop} (hC : zC G X cX6_sheet 5 RX6 (some .int)) {N : Nat} {v1 : Int32} {v3 : Int32} {rec : zS → Int32 → Option (zS)} (hrec : ∀ (u : zS) (v4 : Int32) (o : zS), rec u v4 = some o → zW dscM l rm_X6_sheet G X K o 66 [(3, .int v3)] [] → zW dscM l rm_X6_sheet G X K u 40 [(0, .ref (G.1 0)), (1, .int v1), (3, .int v3), (4, .int v4)] []) : ∀ (u : zS) (v4 : Int32) (o : zS), f_X6_sheet_L40_B N v1 v3 rec u v4 = some o → zW dscM l rm_X6_sheet G X K o 66 [(3, .int v3)] [] → zW dscM l rm_X6_sheet G X K u 40 [(0, .ref (G.1 0)), (1, .int v1), (3, .int v3), (4, .int v4)] [] := by
  intro u v4 o hf hk
  unfold f_X6_sheet_L40_B at hf
  refine r_iload hC dX6_sheet_40 3 rfl ?_
  refine r_bipush (v := 24) hC dX6_sheet_42 (by decide) ?_
  refine r_icmp_ge (tgt := 66) hC dX6_sheet_44 (by decide) (fun c8 => ?_) (fun c8 => ?_)
  · have hf := ite_t c8 hf
    have hf := Option.some.inj hf
    subst hf
    refine r_loc [2] rfl ?_
    exact hk
  · have hf := ite_f c8 hf
    refine r_aload_n hC dX6_sheet_47 0 rfl ?_
    refine r_getr hC fd_RX6_16 dM_0 rfl dX6_sheet_48 ?_
    refine r_bipush (v := 24) hC dX6_sheet_51 (by decide) ?_
    refine r_iload_n hC dX6_sheet_53 1 rfl ?_
    refine r_imul hC dX6_sheet_54 ?_
    refine r_iload hC dX6_sheet_55 3 rfl ?_
    refine r_iadd hC dX6_sheet_57 ?_
    refine r_lconst (v := 0) hC dX6_sheet_58 (by decide) ?_
    obtain ⟨g9, hf⟩ := og_in hf
    refine r_last hC dM_3 g9 dX6_sheet_59 ?_
    refine r_tops (fun u10 eu10 => ?_)
    have hf := olet_at eu10 hf
    refine r_iinc (v := 1) (lv' := [(4, .int (v4 + 1)), (0, .ref (G.1 0)), (1, .int v1), (3, .int v3)]) hC dX6_sheet_60 3 rfl (by decide) (by decide) rfl ?_
    refine r_goto (tgt := 40) hC dX6_sheet_63 (by decide) ?_
    refine r_loc [1, 2, 3, 0] rfl ?_
    exact hrec u10 (v4 + 1) o hf hk
set_option maxHeartbeats 4000000 in
set_option maxRecDepth 100000 in
theorem t_X6_sheet_L40 {l : Launch} {G : zG} {X : zX} {K : Option Value → zS → Prop} (hC : zC G X cX6_sheet 5 RX6 (some .int)) {N : Nat} {v1 : Int32} {v3 : Int32} : ∀ (n : Nat) (u : zS) (v4 : Int32) (o : zS), f_X6_sheet_L40 N v1 v3 n u v4 = some o → zW dscM l rm_X6_sheet G X K o 66 [(3, .int v3)] [] → zW dscM l rm_X6_sheet G X K u 40 [(0, .ref (G.1 0)), (1, .int v1), (3, .int v3), (4, .int v4)] [] := by
  intro n
  induction n with
  | zero => intro u v4 o hf; cases hf
  | succ n ih => intro u v4 o hf hk; exact t_X6_sheet_L40_B hC (rec := f_X6_sheet_L40 N v1 v3 n) ih u v4 o hf hk
set_option maxHeartbeats 4000000 in
set_option maxRecDepth 100000 in
theorem t_X6_sheet {l : Launch} {G : zG} {X : zX} {K : Option Value → zS → Prop} (hC : zC G X cX6_sheet 5 RX6 (some .int)) {N : Nat} {u : zS} {v1 : Int32} {v2 : Int32} {v3 : Int32} (o : Int32 × zS) (hf : f_X6_sheet N u v1 v2 v3 = some o) (hk : K (some (.int o.1)) o.2) : zW dscM l rm_X6_sheet G X K u 0 [(0, .ref (G.1 0)), (1, .int v1), (2, .int v2), (3, .int v3)] [] := by
  unfold f_X6_sheet at hf
  refine r_iload_n hC dX6_sheet_0 1 rfl ?_
  refine r_iload_n hC dX6_sheet_1 2 rfl ?_
  refine r_csi (As := [.int v1, .int v2]) (rest := []) hC c_X6_isLane ys_X6_isLane ml_RX6_208 ⟨by decide, by decide, rfl, rfl⟩ rfl rfl (Nat.le_of_ble_eq_true rfl) dX6_sheet_2 ?_
  refine r_if_eq (tgt := 14) hC dX6_sheet_5 (by decide) (fun c1 => ?_) (fun c1 => ?_)
  · have hf := ite_t c1 hf
    refine r_iconst (v := (-1)) hC dX6_sheet_14 (by decide) ?_
    have hf := Option.some.inj hf
    subst hf
    exact r_iret hC dX6_sheet_15 hk
  · have hf := ite_f c1 hf
    refine r_iload_n hC dX6_sheet_8 3 rfl ?_
    refine r_bipush (v := 24) hC dX6_sheet_9 (by decide) ?_
    refine r_icmp_le (tgt := 16) hC dX6_sheet_11 (by decide) (fun c2 => ?_) (fun c2 => ?_)
    · have hf := ite_t c2 hf
      refine r_iload_n hC dX6_sheet_16 3 rfl ?_
      refine r_if_ge (tgt := 23) hC dX6_sheet_17 (by decide) (fun c3 => ?_) (fun c3 => ?_)
      · have hf := ite_t c3 hf
        refine r_aload_n hC dX6_sheet_23 0 rfl ?_
        refine r_getr hC fd_RX6_23 dM_0 rfl dX6_sheet_24 ?_
        refine r_iload_n hC dX6_sheet_27 1 rfl ?_
        refine r_iload_n hC dX6_sheet_28 2 rfl ?_
        obtain ⟨g4, hf⟩ := og_in hf
        refine r_iast hC dM_5 g4 dX6_sheet_29 ?_
        refine r_tops (fun u5 eu5 => ?_)
        have hf := olet_at eu5 hf
        refine r_aload_n hC dX6_sheet_30 0 rfl ?_
        refine r_getr hC fd_RX6_20 dM_0 rfl dX6_sheet_31 ?_
        refine r_iload_n hC dX6_sheet_34 1 rfl ?_
        refine r_iload_n hC dX6_sheet_35 3 rfl ?_
        obtain ⟨g6, hf⟩ := og_in hf
        refine r_iast hC dM_4 g6 dX6_sheet_36 ?_
        refine r_tops (fun u7 eu7 => ?_)
        have hf := olet_at eu7 hf
        refine r_iconst (v := 0) hC dX6_sheet_37 (by decide) ?_
        refine r_istore (lv' := [(4, .int 0), (0, .ref (G.1 0)), (1, .int v1), (2, .int v2), (3, .int v3)]) hC dX6_sheet_38 (by decide) rfl ?_
        refine r_loc [1, 2, 4, 0] rfl ?_
        obtain ⟨q11, eq11, hf⟩ := ob_some hf
        refine t_X6_sheet_L40 hC N u7 0 q11 eq11 ?_
        refine r_iload_n hC dX6_sheet_66 0 rfl ?_
        have hf := Option.some.inj hf
        subst hf
        exact r_iret hC dX6_sheet_67 hk
      · have hf := ite_f c3 hf
        refine r_bipush (v := (-14)) hC dX6_sheet_20 (by decide) ?_
        have hf := Option.some.inj hf
        subst hf
        exact r_iret hC dX6_sheet_22 hk
    · have hf := ite_f c2 hf
      refine r_iconst (v := (-1)) hC dX6_sheet_14 (by decide) ?_
      have hf := Option.some.inj hf
      subst hf
      exact r_iret hC dX6_sheet_15 hk
set_option maxHeartbeats 4000000 in
set_option maxRecDepth 100000 in
theorem c_X6_sheet {l : Launch} {G : zG} {N : Nat} {u : zS} {v1 : Int32} {v2 : Int32} {v3 : Int32} {r : Int32 × zS} (hf : f_X6_sheet N u v1 v2 v3 = some r) : zM l dscM yX6_sheet cX6_sheet 5 (some .int) rm_X6_sheet G [.ref (G.1 0), .int v1, .int v2, .int v3] u (some (.int r.1)) r.2 := zM.of (by decide) (Nat.le_of_ble_eq_true rfl) (fun X hC => t_X6_sheet hC r hf ⟨rfl, rfl⟩)
set_option maxHeartbeats 4000000 in
set_option maxRecDepth 100000 in
theorem t_X6_drop {l : Launch} {G : zG} {X : zX} {K : Option Value → zS → Prop} (hC : zC G X cX6_drop 3 RX6 (some .int)) {u : zS} {v1 : Int32} (o : Int32 × zS) (hf : f_X6_drop u v1 = some o) (hk : K (some (.int o.1)) o.2) : zW dscM l rm_X6_drop G X K u 0 [(0, .ref (G.1 0)), (1, .int v1)] [] := by
  unfold f_X6_drop at hf
  refine r_iload_n hC dX6_drop_0 1 rfl ?_
  refine r_csi (As := [.int v1]) (rest := []) hC c_X6_isSheet ys_X6_isSheet ml_RX6_205 ⟨by decide, by decide, rfl, rfl⟩ rfl rfl (Nat.le_of_ble_eq_true rfl) dX6_drop_1 ?_
  refine r_if_ne (tgt := 9) hC dX6_drop_4 (by decide) (fun c1 => ?_) (fun c1 => ?_)
  · have hf := ite_f c1 hf
    refine r_aload_n hC dX6_drop_9 0 rfl ?_
    refine r_getr hC fd_RX6_20 dM_0 rfl dX6_drop_10 ?_
    refine r_iload_n hC dX6_drop_13 1 rfl ?_
    obtain ⟨g2, hf⟩ := og_in hf
    refine r_iald hC dM_4 g2 dX6_drop_14 ?_
    refine r_if_ge (tgt := 21) hC dX6_drop_15 (by decide) (fun c3 => ?_) (fun c3 => ?_)
    · have hf := ite_t c3 hf
      refine r_aload_n hC dX6_drop_21 0 rfl ?_
      refine r_getr hC fd_RX6_20 dM_0 rfl dX6_drop_22 ?_
      refine r_iload_n hC dX6_drop_25 1 rfl ?_
      obtain ⟨g4, hf⟩ := og_in hf
      refine r_iald hC dM_4 g4 dX6_drop_26 ?_
      refine r_istore_n (lv' := [(2, .int (u.1 4 (Int32.toNatClampNeg v1))), (0, .ref (G.1 0)), (1, .int v1)]) hC dX6_drop_27 rfl (by decide) rfl ?_
      refine r_aload_n hC dX6_drop_28 1 rfl ?_
      refine r_getr hC fd_RX6_20 dM_0 rfl dX6_drop_29 ?_
      refine r_iload_n hC dX6_drop_32 2 rfl ?_
      refine r_iconst (v := (-1)) hC dX6_drop_33 (by decide) ?_
      obtain ⟨g5, hf⟩ := og_in hf
      refine r_iast hC dM_4 g5 dX6_drop_34 ?_
      refine r_tops (fun u6 eu6 => ?_)
      have hf := olet_at eu6 hf
      refine r_iload_n hC dX6_drop_35 0 rfl ?_
      have hf := Option.some.inj hf
      subst hf
      exact r_iret hC dX6_drop_36 hk
    · have hf := ite_f c3 hf
      refine r_bipush (v := (-11)) hC dX6_drop_18 (by decide) ?_
      have hf := Option.some.inj hf
      subst hf
      exact r_iret hC dX6_drop_20 hk
  · have hf := ite_t c1 hf
    refine r_iconst (v := (-1)) hC dX6_drop_7 (by decide) ?_
    have hf := Option.some.inj hf
    subst hf
    exact r_iret hC dX6_drop_8 hk
set_option maxHeartbeats 4000000 in
set_option maxRecDepth 100000 in
theorem c_X6_drop {l : Launch} {G : zG} {u : zS} {v1 : Int32} {r : Int32 × zS} (hf : f_X6_drop u v1 = some r) : zM l dscM yX6_drop cX6_drop 3 (some .int) rm_X6_drop G [.ref (G.1 0), .int v1] u (some (.int r.1)) r.2 := zM.of (by decide) (Nat.le_of_ble_eq_true rfl) (fun X hC => t_X6_drop hC r hf ⟨rfl, rfl⟩)
set_option maxHeartbeats 4000000 in
set_option maxRecDepth 100000 in
theorem t_X6_item {l : Launch} {G : zG} {X : zX} {K : Option Value → zS → Prop} (hC : zC G X cX6_item 7 RX6 (some .int)) {u : zS} {v1 : Int32} {v2 : Int32} {v3 : Int32} {v4 : Int64} (o : Int32 × zS) (hf : f_X6_item u v1 v2 v3 v4 = some o) (hk : K (some (.int o.1)) o.2) : zW dscM l rm_X6_item G X K u 0 [(0, .ref (G.1 0)), (1, .int v1), (2, .int v2), (3, .int v3), (4, .long v4)] [] := by
  unfold f_X6_item at hf
  refine r_iload_n hC dX6_item_0 1 rfl ?_
  refine r_iload_n hC dX6_item_1 2 rfl ?_
  refine r_csi (As := [.int v1, .int v2]) (rest := []) hC c_X6_isLane ys_X6_isLane ml_RX6_208 ⟨by decide, by decide, rfl, rfl⟩ rfl rfl (Nat.le_of_ble_eq_true rfl) dX6_item_2 ?_
  refine r_if_ne (tgt := 10) hC dX6_item_5 (by decide) (fun c1 => ?_) (fun c1 => ?_)
  · have hf := ite_f c1 hf
    refine r_aload_n hC dX6_item_10 0 rfl ?_
    refine r_iload_n hC dX6_item_11 1 rfl ?_
    refine r_iload_n hC dX6_item_12 2 rfl ?_
    refine r_iload_n hC dX6_item_13 3 rfl ?_
    refine r_iconst (v := 1) hC dX6_item_14 (by decide) ?_
    obtain ⟨r2, er2, hf⟩ := ob_some hf
    refine r_cvi (As := [.int v1, .int v2, .int v3, .int 1]) (rest := []) hC (c_X6_against er2) yv_X6_against ml_RX6_213 dM_0 ⟨by decide, by decide, rfl, rfl⟩ rfl rfl (Nat.le_of_ble_eq_true rfl) dX6_item_15 ?_
    refine r_istore (lv' := [(6, .int r2), (0, .ref (G.1 0)), (1, .int v1), (2, .int v2), (3, .int v3), (4, .long v4)]) hC dX6_item_18 (by decide) rfl ?_
    refine r_iload hC dX6_item_20 0 rfl ?_
    refine r_if_ge (tgt := 28) hC dX6_item_22 (by decide) (fun c3 => ?_) (fun c3 => ?_)
    · have hf := ite_t c3 hf
      refine r_aload_n hC dX6_item_28 1 rfl ?_
      refine r_getr hC fd_RX6_16 dM_0 rfl dX6_item_29 ?_
      refine r_bipush (v := 24) hC dX6_item_32 (by decide) ?_
      refine r_iload_n hC dX6_item_34 2 rfl ?_
      refine r_imul hC dX6_item_35 ?_
      refine r_iload_n hC dX6_item_36 4 rfl ?_
      refine r_iadd hC dX6_item_37 ?_
      refine r_iload_n hC dX6_item_38 3 rfl ?_
      refine r_lload hC dX6_item_39 5 rfl ?_
      refine r_csl (As := [.int v2, .long v4]) (rest := [.int ((24 * v1) + v3), .ref (G.1 3)]) hC c_X6_lowest ys_X6_lowest ml_RX6_219 ⟨by decide, by decide, rfl, rfl⟩ rfl rfl (Nat.le_of_ble_eq_true rfl) dX6_item_41 ?_
      obtain ⟨g4, hf⟩ := og_in hf
      refine r_last hC dM_3 g4 dX6_item_44 ?_
      refine r_tops (fun u5 eu5 => ?_)
      have hf := olet_at eu5 hf
      refine r_iconst (v := 1) hC dX6_item_45 (by decide) ?_
      have hf := Option.some.inj hf
      subst hf
      exact r_iret hC dX6_item_46 hk
    · have hf := ite_f c3 hf
      refine r_iload hC dX6_item_25 0 rfl ?_
      have hf := Option.some.inj hf
      subst hf
      exact r_iret hC dX6_item_27 hk
  · have hf := ite_t c1 hf
    refine r_iconst (v := (-1)) hC dX6_item_8 (by decide) ?_
    have hf := Option.some.inj hf
    subst hf
    exact r_iret hC dX6_item_9 hk
set_option maxHeartbeats 4000000 in
set_option maxRecDepth 100000 in
theorem c_X6_item {l : Launch} {G : zG} {u : zS} {v1 : Int32} {v2 : Int32} {v3 : Int32} {v4 : Int64} {r : Int32 × zS} (hf : f_X6_item u v1 v2 v3 v4 = some r) : zM l dscM yX6_item cX6_item 7 (some .int) rm_X6_item G [.ref (G.1 0), .int v1, .int v2, .int v3, .long v4] u (some (.int r.1)) r.2 := zM.of (by decide) (Nat.le_of_ble_eq_true rfl) (fun X hC => t_X6_item hC r hf ⟨rfl, rfl⟩)
set_option maxHeartbeats 4000000 in
set_option maxRecDepth 100000 in
theorem t_X6_copy_L96_B {l : Launch} {G : zG} {X : zX} {K : Option Value → zS → Prop} (hC : zC G X cX6_copy 7 RX6 (some .int)) {N : Nat} {v1 : Int32} {v2 : Int32} {v3 : Int32} {v4 : Int32} {v5 : Int32} {rec : zS → Int32 → Option (zS)} (hrec : ∀ (u : zS) (v6 : Int32) (o : zS), rec u v6 = some o → zW dscM l rm_X6_copy G X K o 130 [(0, .ref (G.1 0)), (3, .int v3), (4, .int v4), (5, .int v5)] [] → zW dscM l rm_X6_copy G X K u 96 [(0, .ref (G.1 0)), (1, .int v1), (2, .int v2), (3, .int v3), (4, .int v4), (5, .int v5), (6, .int v6)] []) : ∀ (u : zS) (v6 : Int32) (o : zS), f_X6_copy_L96_B N v1 v2 v3 v4 v5 rec u v6 = some o → zW dscM l rm_X6_copy G X K o 130 [(0, .ref (G.1 0)), (3, .int v3), (4, .int v4), (5, .int v5)] [] → zW dscM l rm_X6_copy G X K u 96 [(0, .ref (G.1 0)), (1, .int v1), (2, .int v2), (3, .int v3), (4, .int v4), (5, .int v5), (6, .int v6)] [] := by
  intro u v6 o hf hk
  unfold f_X6_copy_L96_B at hf
  refine r_iload hC dX6_copy_96 6 rfl ?_
  refine r_iload hC dX6_copy_98 5 rfl ?_
  refine r_icmp_ge (tgt := 130) hC dX6_copy_100 (by decide) (fun c16 => ?_) (fun c16 => ?_)
  · have hf := ite_t c16 hf
    have hf := Option.some.inj hf
    subst hf
    refine r_loc [0, 3, 4, 5] rfl ?_
    exact hk
  · have hf := ite_f c16 hf
    refine r_aload_n hC dX6_copy_103 0 rfl ?_
    refine r_getr hC fd_RX6_47 dM_0 rfl dX6_copy_104 ?_
    refine r_iload hC dX6_copy_107 6 rfl ?_
    refine r_aload_n hC dX6_copy_109 0 rfl ?_
    refine r_getr hC fd_RX6_16 dM_0 rfl dX6_copy_110 ?_
    refine r_bipush (v := 24) hC dX6_copy_113 (by decide) ?_
    refine r_iload_n hC dX6_copy_115 1 rfl ?_
    refine r_imul hC dX6_copy_116 ?_
    refine r_iload_n hC dX6_copy_117 2 rfl ?_
    refine r_iadd hC dX6_copy_118 ?_
    refine r_iload hC dX6_copy_119 6 rfl ?_
    refine r_iadd hC dX6_copy_121 ?_
    obtain ⟨g17, hf⟩ := og_in hf
    refine r_lald hC dM_3 g17 dX6_copy_122 ?_
    obtain ⟨g18, hf⟩ := og_in hf
    refine r_last hC dM_13 g18 dX6_copy_123 ?_
    refine r_tops (fun u19 eu19 => ?_)
    have hf := olet_at eu19 hf
    refine r_iinc (v := 1) (lv' := [(6, .int (v6 + 1)), (0, .ref (G.1 0)), (1, .int v1), (2, .int v2), (3, .int v3), (4, .int v4), (5, .int v5)]) hC dX6_copy_124 6 rfl (by decide) (by decide) rfl ?_
    refine r_goto (tgt := 96) hC dX6_copy_127 (by decide) ?_
    refine r_loc [1, 2, 3, 4, 5, 6, 0] rfl ?_
    exact hrec u19 (v6 + 1) o hf hk
set_option maxHeartbeats 4000000 in
set_option maxRecDepth 100000 in
theorem t_X6_copy_L96 {l : Launch} {G : zG} {X : zX} {K : Option Value → zS → Prop} (hC : zC G X cX6_copy 7 RX6 (some .int)) {N : Nat} {v1 : Int32} {v2 : Int32} {v3 : Int32} {v4 : Int32} {v5 : Int32} : ∀ (n : Nat) (u : zS) (v6 : Int32) (o : zS), f_X6_copy_L96 N v1 v2 v3 v4 v5 n u v6 = some o → zW dscM l rm_X6_copy G X K o 130 [(0, .ref (G.1 0)), (3, .int v3), (4, .int v4), (5, .int v5)] [] → zW dscM l rm_X6_copy G X K u 96 [(0, .ref (G.1 0)), (1, .int v1), (2, .int v2), (3, .int v3), (4, .int v4), (5, .int v5), (6, .int v6)] [] := by
  intro n
  induction n with
  | zero => intro u v6 o hf; cases hf
  | succ n ih => intro u v6 o hf hk; exact t_X6_copy_L96_B hC (rec := f_X6_copy_L96 N v1 v2 v3 v4 v5 n) ih u v6 o hf hk
set_option maxHeartbeats 4000000 in
set_option maxRecDepth 100000 in
theorem t_X6_copy_L133_B {l : Launch} {G : zG} {X : zX} {K : Option Value → zS → Prop} (hC : zC G X cX6_copy 7 RX6 (some .int)) {N : Nat} {v3 : Int32} {v4 : Int32} {v5 : Int32} {rec : zS → Int32 → Option (zS)} (hrec : ∀ (u : zS) (v6 : Int32) (o : zS), rec u v6 = some o → zW dscM l rm_X6_copy G X K o 168 [(5, .int v5)] [] → zW dscM l rm_X6_copy G X K u 133 [(0, .ref (G.1 0)), (3, .int v3), (4, .int v4), (5, .int v5), (6, .int v6)] []) : ∀ (u : zS) (v6 : Int32) (o : zS), f_X6_copy_L133_B N v3 v4 v5 rec u v6 = some o → zW dscM l rm_X6_copy G X K o 168 [(5, .int v5)] [] → zW dscM l rm_X6_copy G X K u 133 [(0, .ref (G.1 0)), (3, .int v3), (4, .int v4), (5, .int v5), (6, .int v6)] [] := by
  intro u v6 o hf hk
  unfold f_X6_copy_L133_B at hf
  refine r_iload hC dX6_copy_133 4 rfl ?_
  refine r_iload hC dX6_copy_135 3 rfl ?_
  refine r_icmp_ge (tgt := 168) hC dX6_copy_137 (by decide) (fun c21 => ?_) (fun c21 => ?_)
  · have hf := ite_t c21 hf
    have hf := Option.some.inj hf
    subst hf
    refine r_loc [3] rfl ?_
    exact hk
  · have hf := ite_f c21 hf
    refine r_aload_n hC dX6_copy_140 0 rfl ?_
    refine r_getr hC fd_RX6_16 dM_0 rfl dX6_copy_141 ?_
    refine r_bipush (v := 24) hC dX6_copy_144 (by decide) ?_
    refine r_iload_n hC dX6_copy_146 1 rfl ?_
    refine r_imul hC dX6_copy_147 ?_
    refine r_iload hC dX6_copy_148 2 rfl ?_
    refine r_iadd hC dX6_copy_150 ?_
    refine r_iload hC dX6_copy_151 4 rfl ?_
    refine r_iadd hC dX6_copy_153 ?_
    refine r_aload_n hC dX6_copy_154 0 rfl ?_
    refine r_getr hC fd_RX6_47 dM_0 rfl dX6_copy_155 ?_
    refine r_iload hC dX6_copy_158 4 rfl ?_
    obtain ⟨g22, hf⟩ := og_in hf
    refine r_lald hC dM_13 g22 dX6_copy_160 ?_
    obtain ⟨g23, hf⟩ := og_in hf
    refine r_last hC dM_3 g23 dX6_copy_161 ?_
    refine r_tops (fun u24 eu24 => ?_)
    have hf := olet_at eu24 hf
    refine r_iinc (v := 1) (lv' := [(6, .int (v6 + 1)), (0, .ref (G.1 0)), (3, .int v3), (4, .int v4), (5, .int v5)]) hC dX6_copy_162 4 rfl (by decide) (by decide) rfl ?_
    refine r_goto (tgt := 133) hC dX6_copy_165 (by decide) ?_
    refine r_loc [1, 2, 3, 4, 0] rfl ?_
    exact hrec u24 (v6 + 1) o hf hk
set_option maxHeartbeats 4000000 in
set_option maxRecDepth 100000 in
theorem t_X6_copy_L133 {l : Launch} {G : zG} {X : zX} {K : Option Value → zS → Prop} (hC : zC G X cX6_copy 7 RX6 (some .int)) {N : Nat} {v3 : Int32} {v4 : Int32} {v5 : Int32} : ∀ (n : Nat) (u : zS) (v6 : Int32) (o : zS), f_X6_copy_L133 N v3 v4 v5 n u v6 = some o → zW dscM l rm_X6_copy G X K o 168 [(5, .int v5)] [] → zW dscM l rm_X6_copy G X K u 133 [(0, .ref (G.1 0)), (3, .int v3), (4, .int v4), (5, .int v5), (6, .int v6)] [] := by
  intro n
  induction n with
  | zero => intro u v6 o hf; cases hf
  | succ n ih => intro u v6 o hf hk; exact t_X6_copy_L133_B hC (rec := f_X6_copy_L133 N v3 v4 v5 n) ih u v6 o hf hk
set_option maxHeartbeats 4000000 in
set_option maxRecDepth 100000 in
theorem t_X6_copy {l : Launch} {G : zG} {X : zX} {K : Option Value → zS → Prop} (hC : zC G X cX6_copy 7 RX6 (some .int)) {N : Nat} {u : zS} {v1 : Int32} {v2 : Int32} {v3 : Int32} {v4 : Int32} {v5 : Int32} (o : Int32 × zS) (hf : f_X6_copy N u v1 v2 v3 v4 v5 = some o) (hk : K (some (.int o.1)) o.2) : zW dscM l rm_X6_copy G X K u 0 [(0, .ref (G.1 0)), (1, .int v1), (2, .int v2), (3, .int v3), (4, .int v4), (5, .int v5)] [] := by
  unfold f_X6_copy at hf
  refine r_iload_n hC dX6_copy_0 1 rfl ?_
  refine r_csi (As := [.int v1]) (rest := []) hC c_X6_isSheet ys_X6_isSheet ml_RX6_205 ⟨by decide, by decide, rfl, rfl⟩ rfl rfl (Nat.le_of_ble_eq_true rfl) dX6_copy_1 ?_
  refine r_if_eq (tgt := 14) hC dX6_copy_4 (by decide) (fun c1 => ?_) (fun c1 => ?_)
  · have hf := ite_t c1 hf
    refine r_iconst (v := (-1)) hC dX6_copy_14 (by decide) ?_
    have hf := Option.some.inj hf
    subst hf
    exact r_iret hC dX6_copy_15 hk
  · have hf := ite_f c1 hf
    refine r_iload_n hC dX6_copy_7 3 rfl ?_
    refine r_csi (As := [.int v3]) (rest := []) hC c_X6_isSheet ys_X6_isSheet ml_RX6_205 ⟨by decide, by decide, rfl, rfl⟩ rfl rfl (Nat.le_of_ble_eq_true rfl) dX6_copy_8 ?_
    refine r_if_ne (tgt := 16) hC dX6_copy_11 (by decide) (fun c2 => ?_) (fun c2 => ?_)
    · have hf := ite_f c2 hf
      refine r_aload_n hC dX6_copy_16 0 rfl ?_
      refine r_getr hC fd_RX6_20 dM_0 rfl dX6_copy_17 ?_
      refine r_iload_n hC dX6_copy_20 1 rfl ?_
      obtain ⟨g3, hf⟩ := og_in hf
      refine r_iald hC dM_4 g3 dX6_copy_21 ?_
      refine r_if_lt (tgt := 34) hC dX6_copy_22 (by decide) (fun c4 => ?_) (fun c4 => ?_)
      · have hf := ite_t c4 hf
        refine r_bipush (v := (-11)) hC dX6_copy_34 (by decide) ?_
        have hf := Option.some.inj hf
        subst hf
        exact r_iret hC dX6_copy_36 hk
      · have hf := ite_f c4 hf
        refine r_aload_n hC dX6_copy_25 0 rfl ?_
        refine r_getr hC fd_RX6_20 dM_0 rfl dX6_copy_26 ?_
        refine r_iload_n hC dX6_copy_29 3 rfl ?_
        obtain ⟨g5, hf⟩ := og_in hf
        refine r_iald hC dM_4 g5 dX6_copy_30 ?_
        refine r_if_ge (tgt := 37) hC dX6_copy_31 (by decide) (fun c6 => ?_) (fun c6 => ?_)
        · have hf := ite_t c6 hf
          refine r_aload_n hC dX6_copy_37 0 rfl ?_
          refine r_getr hC fd_RX6_23 dM_0 rfl dX6_copy_38 ?_
          refine r_iload_n hC dX6_copy_41 1 rfl ?_
          obtain ⟨g7, hf⟩ := og_in hf
          refine r_iald hC dM_5 g7 dX6_copy_42 ?_
          refine r_aload_n hC dX6_copy_43 0 rfl ?_
          refine r_getr hC fd_RX6_23 dM_0 rfl dX6_copy_44 ?_
          refine r_iload_n hC dX6_copy_47 3 rfl ?_
          obtain ⟨g8, hf⟩ := og_in hf
          refine r_iald hC dM_5 g8 dX6_copy_48 ?_
          refine r_icmp_eq (tgt := 55) hC dX6_copy_49 (by decide) (fun c9 => ?_) (fun c9 => ?_)
          · have hf := ite_t c9 hf
            refine r_aload_n hC dX6_copy_55 0 rfl ?_
            refine r_iload_n hC dX6_copy_56 1 rfl ?_
            refine r_aload_n hC dX6_copy_57 0 rfl ?_
            refine r_getr hC fd_RX6_23 dM_0 rfl dX6_copy_58 ?_
            refine r_iload_n hC dX6_copy_61 1 rfl ?_
            obtain ⟨g10, hf⟩ := og_in hf
            refine r_iald hC dM_5 g10 dX6_copy_62 ?_
            refine r_iload_n hC dX6_copy_63 2 rfl ?_
            refine r_iload hC dX6_copy_64 5 rfl ?_
            obtain ⟨r11, er11, hf⟩ := ob_some hf
            refine r_cvi (As := [.int v1, .int (u.1 5 (Int32.toNatClampNeg v1)), .int v2, .int v5]) (rest := []) hC (c_X6_against er11) yv_X6_against ml_RX6_213 dM_0 ⟨by decide, by decide, rfl, rfl⟩ rfl rfl (Nat.le_of_ble_eq_true rfl) dX6_copy_66 ?_
            refine r_if_lt (tgt := 90) hC dX6_copy_69 (by decide) (fun c12 => ?_) (fun c12 => ?_)
            · have hf := ite_t c12 hf
              refine r_bipush (v := (-13)) hC dX6_copy_90 (by decide) ?_
              have hf := Option.some.inj hf
              subst hf
              exact r_iret hC dX6_copy_92 hk
            · have hf := ite_f c12 hf
              refine r_aload_n hC dX6_copy_72 0 rfl ?_
              refine r_iload_n hC dX6_copy_73 3 rfl ?_
              refine r_aload_n hC dX6_copy_74 0 rfl ?_
              refine r_getr hC fd_RX6_23 dM_0 rfl dX6_copy_75 ?_
              refine r_iload_n hC dX6_copy_78 3 rfl ?_
              obtain ⟨g13, hf⟩ := og_in hf
              refine r_iald hC dM_5 g13 dX6_copy_79 ?_
              refine r_iload hC dX6_copy_80 4 rfl ?_
              refine r_iload hC dX6_copy_82 5 rfl ?_
              obtain ⟨r14, er14, hf⟩ := ob_some hf
              refine r_cvi (As := [.int v3, .int (u.1 5 (Int32.toNatClampNeg v3)), .int v4, .int v5]) (rest := []) hC (c_X6_against er14) yv_X6_against ml_RX6_213 dM_0 ⟨by decide, by decide, rfl, rfl⟩ rfl rfl (Nat.le_of_ble_eq_true rfl) dX6_copy_84 ?_
              refine r_if_ge (tgt := 93) hC dX6_copy_87 (by decide) (fun c15 => ?_) (fun c15 => ?_)
              · have hf := ite_t c15 hf
                refine r_iconst (v := 0) hC dX6_copy_93 (by decide) ?_
                refine r_istore (lv' := [(6, .int 0), (0, .ref (G.1 0)), (1, .int v1), (2, .int v2), (3, .int v3), (4, .int v4), (5, .int v5)]) hC dX6_copy_94 (by decide) rfl ?_
                refine r_loc [1, 2, 3, 4, 5, 6, 0] rfl ?_
                obtain ⟨q20, eq20, hf⟩ := ob_some hf
                refine t_X6_copy_L96 hC N u 0 q20 eq20 ?_
                refine r_iconst (v := 0) hC dX6_copy_130 (by decide) ?_
                refine r_istore (lv' := [(6, .int 0), (0, .ref (G.1 0)), (3, .int v3), (4, .int v4), (5, .int v5)]) hC dX6_copy_131 (by decide) rfl ?_
                refine r_loc [1, 2, 3, 4, 0] rfl ?_
                obtain ⟨q25, eq25, hf⟩ := ob_some hf
                refine t_X6_copy_L133 hC N q20 0 q25 eq25 ?_
                refine r_iload hC dX6_copy_168 0 rfl ?_
                have hf := Option.some.inj hf
                subst hf
                exact r_iret hC dX6_copy_170 hk
              · have hf := ite_f c15 hf
                refine r_bipush (v := (-13)) hC dX6_copy_90 (by decide) ?_
                have hf := Option.some.inj hf
                subst hf
                exact r_iret hC dX6_copy_92 hk
          · have hf := ite_f c9 hf
            refine r_bipush (v := (-12)) hC dX6_copy_52 (by decide) ?_
            have hf := Option.some.inj hf
            subst hf
            exact r_iret hC dX6_copy_54 hk
        · have hf := ite_f c6 hf
          refine r_bipush (v := (-11)) hC dX6_copy_34 (by decide) ?_
          have hf := Option.some.inj hf
          subst hf
          exact r_iret hC dX6_copy_36 hk
    · have hf := ite_t c2 hf
      refine r_iconst (v := (-1)) hC dX6_copy_14 (by decide) ?_
      have hf := Option.some.inj hf
      subst hf
      exact r_iret hC dX6_copy_15 hk
set_option maxHeartbeats 4000000 in
set_option maxRecDepth 100000 in
theorem c_X6_copy {l : Launch} {G : zG} {N : Nat} {u : zS} {v1 : Int32} {v2 : Int32} {v3 : Int32} {v4 : Int32} {v5 : Int32} {r : Int32 × zS} (hf : f_X6_copy N u v1 v2 v3 v4 v5 = some r) : zM l dscM yX6_copy cX6_copy 7 (some .int) rm_X6_copy G [.ref (G.1 0), .int v1, .int v2, .int v3, .int v4, .int v5] u (some (.int r.1)) r.2 := zM.of (by decide) (Nat.le_of_ble_eq_true rfl) (fun X hC => t_X6_copy hC r hf ⟨rfl, rfl⟩)
