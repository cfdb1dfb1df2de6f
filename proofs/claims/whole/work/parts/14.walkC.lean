set_option maxHeartbeats 4000000 in
set_option maxRecDepth 100000 in
theorem t_X5_count {l : Launch} {G : zG} {X : zX} {K : Option Value → zS → Prop} (hC : zC G X cX5_count 2 RX5 (some .int)) {N : Nat} {u : zS} {v1 : Int32} (o : Int32) (hf : f_X5_count N u v1 = some o) (hk : K (some (.int o)) u) : zW dscC l rm_X5_count G X K u 0 [(0, .ref (G.1 0)), (1, .int v1)] [] := by
  unfold f_X5_count at hf
  refine r_iload_n hC dX5_count_0 1 rfl ?_
  by_cases s1 : v1 = 0
  · have hf := ite_t s1 hf
    refine r_tsIn (q := 0) (off := 47) (tgt := 48) hC dX5_count_1 s1 (by decide) (by decide) ?_
    refine r_aload_n hC dX5_count_48 0 rfl ?_
    refine r_getr hC fd_RX5_10 dC_0 rfl dX5_count_49 ?_
    refine r_geti hC fd_RX5_58 dC_1 rfl dX5_count_52 ?_
    have hf := Option.some.inj hf
    subst hf
    exact r_iret hC dX5_count_55 hk
  · have hf := ite_f s1 hf
    by_cases s2 : v1 = 1
    · have hf := ite_t s2 hf
      refine r_tsIn (q := 1) (off := 55) (tgt := 56) hC dX5_count_1 s2 (by decide) (by decide) ?_
      refine r_aload_n hC dX5_count_56 0 rfl ?_
      refine r_getr hC fd_RX5_10 dC_0 rfl dX5_count_57 ?_
      refine r_geti hC fd_RX5_87 dC_1 rfl dX5_count_60 ?_
      have hf := Option.some.inj hf
      subst hf
      exact r_iret hC dX5_count_63 hk
    · have hf := ite_f s2 hf
      by_cases s3 : v1 = 2
      · have hf := ite_t s3 hf
        refine r_tsIn (q := 2) (off := 63) (tgt := 64) hC dX5_count_1 s3 (by decide) (by decide) ?_
        refine r_aload_n hC dX5_count_64 0 rfl ?_
        refine r_getr hC fd_RX5_10 dC_0 rfl dX5_count_65 ?_
        refine r_geti hC fd_RX5_97 dC_1 rfl dX5_count_68 ?_
        have hf := Option.some.inj hf
        subst hf
        exact r_iret hC dX5_count_71 hk
      · have hf := ite_f s3 hf
        by_cases s4 : v1 = 3
        · have hf := ite_t s4 hf
          refine r_tsIn (q := 3) (off := 71) (tgt := 72) hC dX5_count_1 s4 (by decide) (by decide) ?_
          refine r_aload_n hC dX5_count_72 0 rfl ?_
          refine r_getr hC fd_RX5_10 dC_0 rfl dX5_count_73 ?_
          refine r_geti hC fd_RX5_154 dC_1 rfl dX5_count_76 ?_
          have hf := Option.some.inj hf
          subst hf
          exact r_iret hC dX5_count_79 hk
        · have hf := ite_f s4 hf
          by_cases s5 : v1 = 4
          · have hf := ite_t s5 hf
            refine r_tsIn (q := 4) (off := 79) (tgt := 80) hC dX5_count_1 s5 (by decide) (by decide) ?_
            refine r_aload_n hC dX5_count_80 0 rfl ?_
            refine r_getr hC fd_RX5_10 dC_0 rfl dX5_count_81 ?_
            obtain ⟨r6, er6, hf⟩ := ob_some hf
            refine r_cvi (As := []) (rest := []) hC (c_X1_standing isR_1 er6) yv_X1_standing ml_RX5_62 dC_1 ⟨by decide, by decide, rfl, rfl⟩ rfl rfl (Nat.le_of_ble_eq_true rfl) dX5_count_84 ?_
            have hf := Option.some.inj hf
            subst hf
            exact r_iret hC dX5_count_87 hk
          · have hf := ite_f s5 hf
            by_cases s7 : v1 = 5
            · have hf := ite_t s7 hf
              refine r_tsIn (q := 5) (off := 87) (tgt := 88) hC dX5_count_1 s7 (by decide) (by decide) ?_
              refine r_aload_n hC dX5_count_88 0 rfl ?_
              refine r_getr hC fd_RX5_10 dC_0 rfl dX5_count_89 ?_
              obtain ⟨r8, er8, hf⟩ := ob_some hf
              refine r_cvi (As := []) (rest := []) hC (c_X1_goneOnes isR_1 er8) yv_X1_goneOnes ml_RX5_157 dC_1 ⟨by decide, by decide, rfl, rfl⟩ rfl rfl (Nat.le_of_ble_eq_true rfl) dX5_count_92 ?_
              have hf := Option.some.inj hf
              subst hf
              exact r_iret hC dX5_count_95 hk
            · have hf := ite_f s7 hf
              by_cases s9 : v1 = 6
              · have hf := ite_t s9 hf
                refine r_tsIn (q := 6) (off := 95) (tgt := 96) hC dX5_count_1 s9 (by decide) (by decide) ?_
                refine r_aload_n hC dX5_count_96 0 rfl ?_
                refine r_getr hC fd_RX5_10 dC_0 rfl dX5_count_97 ?_
                refine r_aload_n hC dX5_count_100 0 rfl ?_
                refine r_getr hC fd_RX5_10 dC_0 rfl dX5_count_101 ?_
                refine r_geti hC fd_RX5_154 dC_1 rfl dX5_count_104 ?_
                obtain ⟨r10, er10, hf⟩ := ob_some hf
                refine r_cvi (As := [.int (u.1 1 9)]) (rest := []) hC (c_X1_figureOfBeat isR_1 er10) yv_X1_figureOfBeat ml_RX5_160 dC_1 ⟨by decide, by decide, rfl, rfl⟩ rfl rfl (Nat.le_of_ble_eq_true rfl) dX5_count_107 ?_
                have hf := Option.some.inj hf
                subst hf
                exact r_iret hC dX5_count_110 hk
              · have hf := ite_f s9 hf
                by_cases s11 : v1 = 7
                · have hf := ite_t s11 hf
                  refine r_tsIn (q := 7) (off := 110) (tgt := 111) hC dX5_count_1 s11 (by decide) (by decide) ?_
                  refine r_aload_n hC dX5_count_111 0 rfl ?_
                  refine r_getr hC fd_RX5_10 dC_0 rfl dX5_count_112 ?_
                  refine r_getr hC fd_RX5_70 dC_1 rfl dX5_count_115 ?_
                  refine r_geti hC fd_RX5_163 dC_7 rfl dX5_count_118 ?_
                  have hf := Option.some.inj hf
                  subst hf
                  exact r_iret hC dX5_count_121 hk
                · have hf := ite_f s11 hf
                  refine r_tsOut (tgt := 122) hC dX5_count_1 (by have zs1 := lv_neT (a := 0) s1 rfl; have zs2 := lv_neT (a := 1) s2 rfl; have zs3 := lv_neT (a := 2) s3 rfl; have zs4 := lv_neT (a := 3) s4 rfl; have zs5 := lv_neT (a := 4) s5 rfl; have zs7 := lv_neT (a := 5) s7 rfl; have zs9 := lv_neT (a := 6) s9 rfl; have zs11 := lv_neT (a := 7) s11 rfl; omega) (by decide) ?_
                  refine r_iconst (v := (-1)) hC dX5_count_122 (by decide) ?_
                  have hf := Option.some.inj hf
                  subst hf
                  exact r_iret hC dX5_count_123 hk
set_option maxHeartbeats 4000000 in
set_option maxRecDepth 100000 in
theorem c_X5_count {l : Launch} {G : zG} {N : Nat} {u : zS} {v1 : Int32} {r : Int32} (hf : f_X5_count N u v1 = some r) : zM l dscC yX5_count cX5_count 2 (some .int) rm_X5_count G [.ref (G.1 0), .int v1] u (some (.int r)) u := zM.of (by decide) (Nat.le_of_ble_eq_true rfl) (fun X hC => t_X5_count hC r hf ⟨rfl, rfl⟩)
set_option maxHeartbeats 4000000 in
set_option maxRecDepth 100000 in
theorem t_X5_refusedBeats {l : Launch} {G : zG} {X : zX} {K : Option Value → zS → Prop} (hC : zC G X cX5_refusedBeats 2 RX5 (some .int)) {u : zS} {v1 : Int32} (o : Int32) (hf : f_X5_refusedBeats u v1 = o) (hk : K (some (.int o)) u) : zW dscC l rm_X5_refusedBeats G X K u 0 [(0, .ref (G.1 0)), (1, .int v1)] [] := by
  unfold f_X5_refusedBeats at hf
  refine r_iload_n hC dX5_refusedBeats_0 1 rfl ?_
  refine r_iconst (v := 1) hC dX5_refusedBeats_1 (by decide) ?_
  refine r_bipush (v := 40) hC dX5_refusedBeats_2 (by decide) ?_
  refine r_csi (As := [.int v1, .int 1, .int 40]) (rest := []) hC c_X5_within ys_X5_within ml_RX5_83 ⟨by decide, by decide, rfl, rfl⟩ rfl rfl (Nat.le_of_ble_eq_true rfl) dX5_refusedBeats_4 ?_
  refine r_if_ne (tgt := 12) hC dX5_refusedBeats_7 (by decide) (fun c1 => ?_) (fun c1 => ?_)
  · have hf := ite_f c1 hf
    refine r_aload_n hC dX5_refusedBeats_12 0 rfl ?_
    refine r_getr hC fd_RX5_10 dC_0 rfl dX5_refusedBeats_13 ?_
    refine r_geti hC fd_RX5_154 dC_1 rfl dX5_refusedBeats_16 ?_
    refine r_iload_n hC dX5_refusedBeats_19 1 rfl ?_
    refine r_iadd hC dX5_refusedBeats_20 ?_
    refine r_sipush (v := 9999) hC dX5_refusedBeats_21 (by decide) ?_
    refine r_icmp_le (tgt := 32) hC dX5_refusedBeats_24 (by decide) (fun c2 => ?_) (fun c2 => ?_)
    · have hf := ite_t c2 hf
      refine r_iconst (v := 0) hC dX5_refusedBeats_32 (by decide) ?_
      subst hf
      exact r_iret hC dX5_refusedBeats_33 hk
    · have hf := ite_f c2 hf
      refine r_bipush (v := (-3)) hC dX5_refusedBeats_27 (by decide) ?_
      refine r_goto (tgt := 33) hC dX5_refusedBeats_29 (by decide) ?_
      subst hf
      exact r_iret hC dX5_refusedBeats_33 hk
  · have hf := ite_t c1 hf
    refine r_iconst (v := (-1)) hC dX5_refusedBeats_10 (by decide) ?_
    subst hf
    exact r_iret hC dX5_refusedBeats_11 hk
set_option maxHeartbeats 4000000 in
set_option maxRecDepth 100000 in
theorem c_X5_refusedBeats {l : Launch} {G : zG} {u : zS} {v1 : Int32} : zM l dscC yX5_refusedBeats cX5_refusedBeats 2 (some .int) rm_X5_refusedBeats G [.ref (G.1 0), .int v1] u (some (.int (f_X5_refusedBeats u v1))) u := zM.of (by decide) (Nat.le_of_ble_eq_true rfl) (fun X hC => t_X5_refusedBeats hC _ rfl ⟨rfl, rfl⟩)
set_option maxHeartbeats 4000000 in
set_option maxRecDepth 100000 in
theorem t_X5_beats_L14_B {l : Launch} {G : zG} {X : zX} {K : Option Value → zS → Prop} (hC : zC G X cX5_beats 4 RX5 (some .int)) {N : Nat} {v1 : Int32} {rec : zS → Int32 → Option (zS)} (hrec : ∀ (u : zS) (v3 : Int32) (o : zS), rec u v3 = some o → zW dscC l rm_X5_beats G X K o 46 [(0, .ref (G.1 0))] [] → zW dscC l rm_X5_beats G X K u 14 [(0, .ref (G.1 0)), (1, .int v1), (3, .int v3)] []) : ∀ (u : zS) (v3 : Int32) (o : zS), f_X5_beats_L14_B N v1 rec u v3 = some o → zW dscC l rm_X5_beats G X K o 46 [(0, .ref (G.1 0))] [] → zW dscC l rm_X5_beats G X K u 14 [(0, .ref (G.1 0)), (1, .int v1), (3, .int v3)] [] := by
  intro u v3 o hf hk
  unfold f_X5_beats_L14_B at hf
  refine r_iload_n hC dX5_beats_14 2 rfl ?_
  refine r_iload_n hC dX5_beats_15 1 rfl ?_
  refine r_icmp_ge (tgt := 46) hC dX5_beats_16 (by decide) (fun c3 => ?_) (fun c3 => ?_)
  · have hf := ite_t c3 hf
    have hf := Option.some.inj hf
    subst hf
    refine r_loc [0] rfl ?_
    exact hk
  · have hf := ite_f c3 hf
    refine r_aload_n hC dX5_beats_19 0 rfl ?_
    refine r_getr hC fd_RX5_10 dC_0 rfl dX5_beats_20 ?_
    refine r_getr hC fd_RX5_70 dC_1 rfl dX5_beats_23 ?_
    refine r_aload_n hC dX5_beats_26 0 rfl ?_
    refine r_getr hC fd_RX5_10 dC_0 rfl dX5_beats_27 ?_
    obtain ⟨r4, er4, hf⟩ := ob_some hf
    refine r_cvv (As := [.ref (G.1 1)]) (rest := []) hC (c_X0_note isR_1 er4) yv_X0_note ml_RX5_169 dC_7 ⟨by decide, by decide, rfl, rfl⟩ rfl rfl (Nat.le_of_ble_eq_true rfl) dX5_beats_30 ?_
    refine r_aload_n hC dX5_beats_33 0 rfl ?_
    refine r_getr hC fd_RX5_10 dC_0 rfl dX5_beats_34 ?_
    obtain ⟨r5, er5, hf⟩ := ob_some hf
    refine r_cvv (As := []) (rest := []) hC (c_X1_dance isR_1 er5) yv_X1_dance ml_RX5_172 dC_1 ⟨by decide, by decide, rfl, rfl⟩ rfl rfl (Nat.le_of_ble_eq_true rfl) dX5_beats_37 ?_
    refine r_iinc (v := 1) (lv' := [(3, .int (v3 + 1)), (0, .ref (G.1 0)), (1, .int v1)]) hC dX5_beats_40 2 rfl (by decide) (by decide) rfl ?_
    refine r_goto (tgt := 14) hC dX5_beats_43 (by decide) ?_
    refine r_loc [1, 2, 0] rfl ?_
    exact hrec r5 (v3 + 1) o hf hk
set_option maxHeartbeats 4000000 in
set_option maxRecDepth 100000 in
theorem t_X5_beats_L14 {l : Launch} {G : zG} {X : zX} {K : Option Value → zS → Prop} (hC : zC G X cX5_beats 4 RX5 (some .int)) {N : Nat} {v1 : Int32} : ∀ (n : Nat) (u : zS) (v3 : Int32) (o : zS), f_X5_beats_L14 N v1 n u v3 = some o → zW dscC l rm_X5_beats G X K o 46 [(0, .ref (G.1 0))] [] → zW dscC l rm_X5_beats G X K u 14 [(0, .ref (G.1 0)), (1, .int v1), (3, .int v3)] [] := by
  intro n
  induction n with
  | zero => intro u v3 o hf; cases hf
  | succ n ih => intro u v3 o hf hk; exact t_X5_beats_L14_B hC (rec := f_X5_beats_L14 N v1 n) ih u v3 o hf hk
set_option maxHeartbeats 4000000 in
set_option maxRecDepth 100000 in
theorem t_X5_beats {l : Launch} {G : zG} {X : zX} {K : Option Value → zS → Prop} (hC : zC G X cX5_beats 4 RX5 (some .int)) {N : Nat} {u : zS} {v1 : Int32} (o : Int32 × zS) (hf : f_X5_beats N u v1 = some o) (hk : K (some (.int o.1)) o.2) : zW dscC l rm_X5_beats G X K u 0 [(0, .ref (G.1 0)), (1, .int v1)] [] := by
  unfold f_X5_beats at hf
  refine r_aload_n hC dX5_beats_0 0 rfl ?_
  refine r_iload_n hC dX5_beats_1 1 rfl ?_
  refine r_cvi (As := [.int v1]) (rest := []) hC c_X5_refusedBeats yv_X5_refusedBeats ml_RX5_166 dC_0 ⟨by decide, by decide, rfl, rfl⟩ rfl rfl (Nat.le_of_ble_eq_true rfl) dX5_beats_2 ?_
  refine r_topi (fun w1 ew1 => ?_)
  have hf := olet_at ew1 hf
  refine r_istore_n (lv' := [(2, .int w1), (0, .ref (G.1 0)), (1, .int v1)]) hC dX5_beats_5 rfl (by decide) rfl ?_
  refine r_iload_n hC dX5_beats_6 0 rfl ?_
  refine r_if_ge (tgt := 12) hC dX5_beats_7 (by decide) (fun c2 => ?_) (fun c2 => ?_)
  · have hf := ite_t c2 hf
    refine r_iconst (v := 0) hC dX5_beats_12 (by decide) ?_
    refine r_istore_n (lv' := [(3, .int 0), (2, .int w1), (0, .ref (G.1 0)), (1, .int v1)]) hC dX5_beats_13 rfl (by decide) rfl ?_
    refine r_loc [2, 3, 0] rfl ?_
    obtain ⟨q6, eq6, hf⟩ := ob_some hf
    refine t_X5_beats_L14 hC N u 0 q6 eq6 ?_
    refine r_aload_n hC dX5_beats_46 0 rfl ?_
    refine r_getr hC fd_RX5_10 dC_0 rfl dX5_beats_47 ?_
    obtain ⟨r7, er7, hf⟩ := ob_some hf
    refine r_cvi (As := []) (rest := []) hC (c_X1_standing isR_1 er7) yv_X1_standing ml_RX5_62 dC_1 ⟨by decide, by decide, rfl, rfl⟩ rfl rfl (Nat.le_of_ble_eq_true rfl) dX5_beats_50 ?_
    have hf := Option.some.inj hf
    subst hf
    exact r_iret hC dX5_beats_53 hk
  · have hf := ite_f c2 hf
    refine r_iload_n hC dX5_beats_10 0 rfl ?_
    have hf := Option.some.inj hf
    subst hf
    exact r_iret hC dX5_beats_11 hk
set_option maxHeartbeats 4000000 in
set_option maxRecDepth 100000 in
theorem c_X5_beats {l : Launch} {G : zG} {N : Nat} {u : zS} {v1 : Int32} {r : Int32 × zS} (hf : f_X5_beats N u v1 = some r) : zM l dscC yX5_beats cX5_beats 4 (some .int) rm_X5_beats G [.ref (G.1 0), .int v1] u (some (.int r.1)) r.2 := zM.of (by decide) (Nat.le_of_ble_eq_true rfl) (fun X hC => t_X5_beats hC r hf ⟨rfl, rfl⟩)
set_option maxHeartbeats 4000000 in
set_option maxRecDepth 100000 in
theorem t_X5_draught {l : Launch} {G : zG} {X : zX} {K : Option Value → zS → Prop} (hC : zC G X cX5_draught 2 RX5 (some .int)) {N : Nat} {u : zS} {v1 : Int32} (o : Int32 × zS) (hf : f_X5_draught N u v1 = some o) (hk : K (some (.int o.1)) o.2) : zW dscC l rm_X5_draught G X K u 0 [(0, .ref (G.1 0)), (1, .int v1)] [] := by
  unfold f_X5_draught at hf
  refine r_iload_n hC dX5_draught_0 1 rfl ?_
  refine r_iconst (v := 1) hC dX5_draught_1 (by decide) ?_
  refine r_bipush (v := 7) hC dX5_draught_2 (by decide) ?_
  refine r_csi (As := [.int v1, .int 1, .int 7]) (rest := []) hC c_X5_within ys_X5_within ml_RX5_83 ⟨by decide, by decide, rfl, rfl⟩ rfl rfl (Nat.le_of_ble_eq_true rfl) dX5_draught_4 ?_
  refine r_if_ne (tgt := 12) hC dX5_draught_7 (by decide) (fun c1 => ?_) (fun c1 => ?_)
  · have hf := ite_f c1 hf
    refine r_aload_n hC dX5_draught_12 0 rfl ?_
    refine r_getr hC fd_RX5_10 dC_0 rfl dX5_draught_13 ?_
    refine r_getr hC fd_RX5_70 dC_1 rfl dX5_draught_16 ?_
    refine r_aload_n hC dX5_draught_19 0 rfl ?_
    refine r_getr hC fd_RX5_10 dC_0 rfl dX5_draught_20 ?_
    obtain ⟨r2, er2, hf⟩ := ob_some hf
    refine r_cvv (As := [.ref (G.1 1)]) (rest := []) hC (c_X0_note isR_1 er2) yv_X0_note ml_RX5_169 dC_7 ⟨by decide, by decide, rfl, rfl⟩ rfl rfl (Nat.le_of_ble_eq_true rfl) dX5_draught_23 ?_
    refine r_aload_n hC dX5_draught_26 0 rfl ?_
    refine r_getr hC fd_RX5_10 dC_0 rfl dX5_draught_27 ?_
    refine r_iload_n hC dX5_draught_30 1 rfl ?_
    obtain ⟨r3, er3, hf⟩ := ob_some hf
    refine r_cvv (As := [.int v1]) (rest := []) hC (c_X1_blow isR_1 er3) yv_X1_blow ml_RX5_175 dC_1 ⟨by decide, by decide, rfl, rfl⟩ rfl rfl (Nat.le_of_ble_eq_true rfl) dX5_draught_31 ?_
    refine r_aload_n hC dX5_draught_34 0 rfl ?_
    refine r_getr hC fd_RX5_10 dC_0 rfl dX5_draught_35 ?_
    obtain ⟨r4, er4, hf⟩ := ob_some hf
    refine r_cvi (As := []) (rest := []) hC (c_X1_standing isR_1 er4) yv_X1_standing ml_RX5_62 dC_1 ⟨by decide, by decide, rfl, rfl⟩ rfl rfl (Nat.le_of_ble_eq_true rfl) dX5_draught_38 ?_
    have hf := Option.some.inj hf
    subst hf
    exact r_iret hC dX5_draught_41 hk
  · have hf := ite_t c1 hf
    refine r_iconst (v := (-1)) hC dX5_draught_10 (by decide) ?_
    have hf := Option.some.inj hf
    subst hf
    exact r_iret hC dX5_draught_11 hk
set_option maxHeartbeats 4000000 in
set_option maxRecDepth 100000 in
theorem c_X5_draught {l : Launch} {G : zG} {N : Nat} {u : zS} {v1 : Int32} {r : Int32 × zS} (hf : f_X5_draught N u v1 = some r) : zM l dscC yX5_draught cX5_draught 2 (some .int) rm_X5_draught G [.ref (G.1 0), .int v1] u (some (.int r.1)) r.2 := zM.of (by decide) (Nat.le_of_ble_eq_true rfl) (fun X hC => t_X5_draught hC r hf ⟨rfl, rfl⟩)
set_option maxHeartbeats 4000000 in
set_option maxRecDepth 100000 in
theorem t_X5_leave {l : Launch} {G : zG} {X : zX} {K : Option Value → zS → Prop} (hC : zC G X cX5_leave 3 RX5 (some .int)) {u : zS} {v1 : Int32} (o : Int32 × zS) (hf : f_X5_leave u v1 = some o) (hk : K (some (.int o.1)) o.2) : zW dscC l rm_X5_leave G X K u 0 [(0, .ref (G.1 0)), (1, .int v1)] [] := by
  unfold f_X5_leave at hf
  refine r_aload_n hC dX5_leave_0 0 rfl ?_
  refine r_getr hC fd_RX5_10 dC_0 rfl dX5_leave_1 ?_
  refine r_iload_n hC dX5_leave_4 1 rfl ?_
  refine r_cvi (As := [.int v1]) (rest := []) hC (c_X1_hasAngel isR_1) yv_X1_hasAngel ml_RX5_121 dC_1 ⟨by decide, by decide, rfl, rfl⟩ rfl rfl (Nat.le_of_ble_eq_true rfl) dX5_leave_5 ?_
  refine r_if_ne (tgt := 13) hC dX5_leave_8 (by decide) (fun c1 => ?_) (fun c1 => ?_)
  · have hf := ite_f c1 hf
    refine r_aload_n hC dX5_leave_13 0 rfl ?_
    refine r_getr hC fd_RX5_10 dC_0 rfl dX5_leave_14 ?_
    refine r_getr hC fd_RX5_124 dC_1 rfl dX5_leave_17 ?_
    refine r_iload_n hC dX5_leave_20 1 rfl ?_
    obtain ⟨g2, hf⟩ := og_in hf
    refine r_iald hC dC_2 g2 dX5_leave_21 ?_
    refine r_topi (fun w3 ew3 => ?_)
    have hf := olet_at ew3 hf
    refine r_istore_n (lv' := [(2, .int w3), (0, .ref (G.1 0)), (1, .int v1)]) hC dX5_leave_22 rfl (by decide) rfl ?_
    refine r_iload_n hC dX5_leave_23 0 rfl ?_
    refine r_bipush (v := (-4)) hC dX5_leave_24 (by decide) ?_
    refine r_icmp_ne (tgt := 32) hC dX5_leave_26 (by decide) (fun c4 => ?_) (fun c4 => ?_)
    · have hf := ite_f c4 hf
      refine r_aload_n hC dX5_leave_32 1 rfl ?_
      refine r_getr hC fd_RX5_10 dC_0 rfl dX5_leave_33 ?_
      refine r_getr hC fd_RX5_70 dC_1 rfl dX5_leave_36 ?_
      refine r_aload_n hC dX5_leave_39 1 rfl ?_
      refine r_getr hC fd_RX5_10 dC_0 rfl dX5_leave_40 ?_
      obtain ⟨r5, er5, hf⟩ := ob_some hf
      refine r_cvv (As := [.ref (G.1 1)]) (rest := []) hC (c_X0_note isR_1 er5) yv_X0_note ml_RX5_169 dC_7 ⟨by decide, by decide, rfl, rfl⟩ rfl rfl (Nat.le_of_ble_eq_true rfl) dX5_leave_43 ?_
      refine r_aload_n hC dX5_leave_46 1 rfl ?_
      refine r_getr hC fd_RX5_10 dC_0 rfl dX5_leave_47 ?_
      refine r_getr hC fd_RX5_124 dC_1 rfl dX5_leave_50 ?_
      refine r_iload_n hC dX5_leave_53 2 rfl ?_
      refine r_bipush (v := (-4)) hC dX5_leave_54 (by decide) ?_
      obtain ⟨g6, hf⟩ := og_in hf
      refine r_iast hC dC_2 g6 dX5_leave_56 ?_
      refine r_tops (fun u7 eu7 => ?_)
      have hf := olet_at eu7 hf
      refine r_iload_n hC dX5_leave_57 0 rfl ?_
      have hf := Option.some.inj hf
      subst hf
      exact r_iret hC dX5_leave_58 hk
    · have hf := ite_t c4 hf
      refine r_bipush (v := (-2)) hC dX5_leave_29 (by decide) ?_
      have hf := Option.some.inj hf
      subst hf
      exact r_iret hC dX5_leave_31 hk
  · have hf := ite_t c1 hf
    refine r_iconst (v := (-1)) hC dX5_leave_11 (by decide) ?_
    have hf := Option.some.inj hf
    subst hf
    exact r_iret hC dX5_leave_12 hk
set_option maxHeartbeats 4000000 in
set_option maxRecDepth 100000 in
theorem c_X5_leave {l : Launch} {G : zG} {u : zS} {v1 : Int32} {r : Int32 × zS} (hf : f_X5_leave u v1 = some r) : zM l dscC yX5_leave cX5_leave 3 (some .int) rm_X5_leave G [.ref (G.1 0), .int v1] u (some (.int r.1)) r.2 := zM.of (by decide) (Nat.le_of_ble_eq_true rfl) (fun X hC => t_X5_leave hC r hf ⟨rfl, rfl⟩)
set_option maxHeartbeats 4000000 in
set_option maxRecDepth 100000 in
theorem t_X5_come {l : Launch} {G : zG} {X : zX} {K : Option Value → zS → Prop} (hC : zC G X cX5_come 3 RX5 (some .int)) {N : Nat} {u : zS} {v1 : Int32} {v2 : Int32} (o : Int32 × zS) (hf : f_X5_come N u v1 v2 = some o) (hk : K (some (.int o.1)) o.2) : zW dscC l rm_X5_come G X K u 0 [(0, .ref (G.1 0)), (1, .int v1), (2, .int v2)] [] := by
  unfold f_X5_come at hf
  refine r_aload_n hC dX5_come_0 0 rfl ?_
  refine r_getr hC fd_RX5_10 dC_0 rfl dX5_come_1 ?_
  refine r_iload_n hC dX5_come_4 1 rfl ?_
  refine r_cvi (As := [.int v1]) (rest := []) hC (c_X1_hasAngel isR_1) yv_X1_hasAngel ml_RX5_121 dC_1 ⟨by decide, by decide, rfl, rfl⟩ rfl rfl (Nat.le_of_ble_eq_true rfl) dX5_come_5 ?_
  refine r_if_eq (tgt := 18) hC dX5_come_8 (by decide) (fun c1 => ?_) (fun c1 => ?_)
  · have hf := ite_t c1 hf
    refine r_iconst (v := (-1)) hC dX5_come_18 (by decide) ?_
    have hf := Option.some.inj hf
    subst hf
    exact r_iret hC dX5_come_19 hk
  · have hf := ite_f c1 hf
    refine r_iload_n hC dX5_come_11 2 rfl ?_
    refine r_csi (As := [.int v2]) (rest := []) hC c_X5_isPlace ys_X5_isPlace ml_RX5_54 ⟨by decide, by decide, rfl, rfl⟩ rfl rfl (Nat.le_of_ble_eq_true rfl) dX5_come_12 ?_
    refine r_if_ne (tgt := 20) hC dX5_come_15 (by decide) (fun c2 => ?_) (fun c2 => ?_)
    · have hf := ite_f c2 hf
      refine r_aload_n hC dX5_come_20 0 rfl ?_
      refine r_getr hC fd_RX5_10 dC_0 rfl dX5_come_21 ?_
      refine r_getr hC fd_RX5_124 dC_1 rfl dX5_come_24 ?_
      refine r_iload_n hC dX5_come_27 1 rfl ?_
      obtain ⟨g3, hf⟩ := og_in hf
      refine r_iald hC dC_2 g3 dX5_come_28 ?_
      refine r_bipush (v := (-4)) hC dX5_come_29 (by decide) ?_
      refine r_icmp_ne (tgt := 48) hC dX5_come_31 (by decide) (fun c4 => ?_) (fun c4 => ?_)
      · have hf := ite_f c4 hf
        refine r_bipush (v := (-2)) hC dX5_come_48 (by decide) ?_
        have hf := Option.some.inj hf
        subst hf
        exact r_iret hC dX5_come_50 hk
      · have hf := ite_t c4 hf
        refine r_aload_n hC dX5_come_34 0 rfl ?_
        refine r_getr hC fd_RX5_10 dC_0 rfl dX5_come_35 ?_
        obtain ⟨r5, er5, hf⟩ := ob_some hf
        refine r_cvi (As := []) (rest := []) hC (c_X1_standing isR_1 er5) yv_X1_standing ml_RX5_62 dC_1 ⟨by decide, by decide, rfl, rfl⟩ rfl rfl (Nat.le_of_ble_eq_true rfl) dX5_come_38 ?_
        refine r_iload_n hC dX5_come_41 2 rfl ?_
        refine r_csi (As := [.int r5, .int v2]) (rest := []) hC c_X5_holds ys_X5_holds ml_RX5_66 ⟨by decide, by decide, rfl, rfl⟩ rfl rfl (Nat.le_of_ble_eq_true rfl) dX5_come_42 ?_
        refine r_if_eq (tgt := 51) hC dX5_come_45 (by decide) (fun c6 => ?_) (fun c6 => ?_)
        · have hf := ite_t c6 hf
          refine r_aload_n hC dX5_come_51 0 rfl ?_
          refine r_getr hC fd_RX5_10 dC_0 rfl dX5_come_52 ?_
          refine r_getr hC fd_RX5_70 dC_1 rfl dX5_come_55 ?_
          refine r_aload_n hC dX5_come_58 0 rfl ?_
          refine r_getr hC fd_RX5_10 dC_0 rfl dX5_come_59 ?_
          obtain ⟨r7, er7, hf⟩ := ob_some hf
          refine r_cvv (As := [.ref (G.1 1)]) (rest := []) hC (c_X0_note isR_1 er7) yv_X0_note ml_RX5_169 dC_7 ⟨by decide, by decide, rfl, rfl⟩ rfl rfl (Nat.le_of_ble_eq_true rfl) dX5_come_62 ?_
          refine r_aload_n hC dX5_come_65 0 rfl ?_
          refine r_getr hC fd_RX5_10 dC_0 rfl dX5_come_66 ?_
          refine r_getr hC fd_RX5_124 dC_1 rfl dX5_come_69 ?_
          refine r_iload_n hC dX5_come_72 1 rfl ?_
          refine r_iload_n hC dX5_come_73 2 rfl ?_
          obtain ⟨g8, hf⟩ := og_in hf
          refine r_iast hC dC_2 g8 dX5_come_74 ?_
          refine r_tops (fun u9 eu9 => ?_)
          have hf := olet_at eu9 hf
          refine r_aload_n hC dX5_come_75 0 rfl ?_
          refine r_getr hC fd_RX5_10 dC_0 rfl dX5_come_76 ?_
          obtain ⟨r10, er10, hf⟩ := ob_some hf
          refine r_cvi (As := []) (rest := []) hC (c_X1_standing isR_1 er10) yv_X1_standing ml_RX5_62 dC_1 ⟨by decide, by decide, rfl, rfl⟩ rfl rfl (Nat.le_of_ble_eq_true rfl) dX5_come_79 ?_
          refine r_csi (As := [.int r10]) (rest := []) hC c_J6_bitCount_0f7a4 ys_J6_bitCount_0f7a4 ml_RX5_179 ⟨by decide, by decide, rfl, rfl⟩ rfl rfl (Nat.le_of_ble_eq_true rfl) dX5_come_82 ?_
          have hf := Option.some.inj hf
          subst hf
          exact r_iret hC dX5_come_85 hk
        · have hf := ite_f c6 hf
          refine r_bipush (v := (-2)) hC dX5_come_48 (by decide) ?_
          have hf := Option.some.inj hf
          subst hf
          exact r_iret hC dX5_come_50 hk
    · have hf := ite_t c2 hf
      refine r_iconst (v := (-1)) hC dX5_come_18 (by decide) ?_
      have hf := Option.some.inj hf
      subst hf
      exact r_iret hC dX5_come_19 hk
set_option maxHeartbeats 4000000 in
set_option maxRecDepth 100000 in
theorem c_X5_come {l : Launch} {G : zG} {N : Nat} {u : zS} {v1 : Int32} {v2 : Int32} {r : Int32 × zS} (hf : f_X5_come N u v1 v2 = some r) : zM l dscC yX5_come cX5_come 3 (some .int) rm_X5_come G [.ref (G.1 0), .int v1, .int v2] u (some (.int r.1)) r.2 := zM.of (by decide) (Nat.le_of_ble_eq_true rfl) (fun X hC => t_X5_come hC r hf ⟨rfl, rfl⟩)
set_option maxHeartbeats 4000000 in
set_option maxRecDepth 100000 in
theorem t_X5_drift_L14_B {l : Launch} {G : zG} {X : zX} {K : Option Value → zS → Prop} (hC : zC G X cX5_drift 4 RX5 (some .int)) {N : Nat} {v1 : Int32} {rec : zS → Int32 → Option (zS)} (hrec : ∀ (u : zS) (v3 : Int32) (o : zS), rec u v3 = some o → zW dscC l rm_X5_drift G X K o 53 [(0, .ref (G.1 0))] [] → zW dscC l rm_X5_drift G X K u 14 [(0, .ref (G.1 0)), (1, .int v1), (3, .int v3)] []) : ∀ (u : zS) (v3 : Int32) (o : zS), f_X5_drift_L14_B N v1 rec u v3 = some o → zW dscC l rm_X5_drift G X K o 53 [(0, .ref (G.1 0))] [] → zW dscC l rm_X5_drift G X K u 14 [(0, .ref (G.1 0)), (1, .int v1), (3, .int v3)] [] := by
  intro u v3 o hf hk
  unfold f_X5_drift_L14_B at hf
  refine r_iload_n hC dX5_drift_14 2 rfl ?_
  refine r_iload_n hC dX5_drift_15 1 rfl ?_
  refine r_icmp_ge (tgt := 53) hC dX5_drift_16 (by decide) (fun c3 => ?_) (fun c3 => ?_)
  · have hf := ite_t c3 hf
    have hf := Option.some.inj hf
    subst hf
    refine r_loc [0] rfl ?_
    exact hk
  · have hf := ite_f c3 hf
    refine r_aload_n hC dX5_drift_19 0 rfl ?_
    refine r_getr hC fd_RX5_10 dC_0 rfl dX5_drift_20 ?_
    refine r_getr hC fd_RX5_70 dC_1 rfl dX5_drift_23 ?_
    refine r_aload_n hC dX5_drift_26 0 rfl ?_
    refine r_getr hC fd_RX5_10 dC_0 rfl dX5_drift_27 ?_
    obtain ⟨r4, er4, hf⟩ := ob_some hf
    refine r_cvv (As := [.ref (G.1 1)]) (rest := []) hC (c_X0_note isR_1 er4) yv_X0_note ml_RX5_169 dC_7 ⟨by decide, by decide, rfl, rfl⟩ rfl rfl (Nat.le_of_ble_eq_true rfl) dX5_drift_30 ?_
    refine r_aload_n hC dX5_drift_33 0 rfl ?_
    refine r_getr hC fd_RX5_10 dC_0 rfl dX5_drift_34 ?_
    obtain ⟨r5, er5, hf⟩ := ob_some hf
    refine r_cvv (As := []) (rest := []) hC (c_X1_drawAndBlow isR_1 er5) yv_X1_drawAndBlow ml_RX5_184 dC_1 ⟨by decide, by decide, rfl, rfl⟩ rfl rfl (Nat.le_of_ble_eq_true rfl) dX5_drift_37 ?_
    refine r_aload_n hC dX5_drift_40 0 rfl ?_
    refine r_getr hC fd_RX5_10 dC_0 rfl dX5_drift_41 ?_
    obtain ⟨r6, er6, hf⟩ := ob_some hf
    refine r_cvv (As := []) (rest := []) hC (c_X1_dance isR_1 er6) yv_X1_dance ml_RX5_172 dC_1 ⟨by decide, by decide, rfl, rfl⟩ rfl rfl (Nat.le_of_ble_eq_true rfl) dX5_drift_44 ?_
    refine r_iinc (v := 1) (lv' := [(3, .int (v3 + 1)), (0, .ref (G.1 0)), (1, .int v1)]) hC dX5_drift_47 2 rfl (by decide) (by decide) rfl ?_
    refine r_goto (tgt := 14) hC dX5_drift_50 (by decide) ?_
    refine r_loc [1, 2, 0] rfl ?_
    exact hrec r6 (v3 + 1) o hf hk
set_option maxHeartbeats 4000000 in
set_option maxRecDepth 100000 in
theorem t_X5_drift_L14 {l : Launch} {G : zG} {X : zX} {K : Option Value → zS → Prop} (hC : zC G X cX5_drift 4 RX5 (some .int)) {N : Nat} {v1 : Int32} : ∀ (n : Nat) (u : zS) (v3 : Int32) (o : zS), f_X5_drift_L14 N v1 n u v3 = some o → zW dscC l rm_X5_drift G X K o 53 [(0, .ref (G.1 0))] [] → zW dscC l rm_X5_drift G X K u 14 [(0, .ref (G.1 0)), (1, .int v1), (3, .int v3)] [] := by
  intro n
  induction n with
  | zero => intro u v3 o hf; cases hf
  | succ n ih => intro u v3 o hf hk; exact t_X5_drift_L14_B hC (rec := f_X5_drift_L14 N v1 n) ih u v3 o hf hk
set_option maxHeartbeats 4000000 in
set_option maxRecDepth 100000 in
theorem t_X5_drift {l : Launch} {G : zG} {X : zX} {K : Option Value → zS → Prop} (hC : zC G X cX5_drift 4 RX5 (some .int)) {N : Nat} {u : zS} {v1 : Int32} (o : Int32 × zS) (hf : f_X5_drift N u v1 = some o) (hk : K (some (.int o.1)) o.2) : zW dscC l rm_X5_drift G X K u 0 [(0, .ref (G.1 0)), (1, .int v1)] [] := by
  unfold f_X5_drift at hf
  refine r_aload_n hC dX5_drift_0 0 rfl ?_
  refine r_iload_n hC dX5_drift_1 1 rfl ?_
  refine r_cvi (As := [.int v1]) (rest := []) hC c_X5_refusedBeats yv_X5_refusedBeats ml_RX5_166 dC_0 ⟨by decide, by decide, rfl, rfl⟩ rfl rfl (Nat.le_of_ble_eq_true rfl) dX5_drift_2 ?_
  refine r_topi (fun w1 ew1 => ?_)
  have hf := olet_at ew1 hf
  refine r_istore_n (lv' := [(2, .int w1), (0, .ref (G.1 0)), (1, .int v1)]) hC dX5_drift_5 rfl (by decide) rfl ?_
  refine r_iload_n hC dX5_drift_6 0 rfl ?_
  refine r_if_ge (tgt := 12) hC dX5_drift_7 (by decide) (fun c2 => ?_) (fun c2 => ?_)
  · have hf := ite_t c2 hf
    refine r_iconst (v := 0) hC dX5_drift_12 (by decide) ?_
    refine r_istore_n (lv' := [(3, .int 0), (2, .int w1), (0, .ref (G.1 0)), (1, .int v1)]) hC dX5_drift_13 rfl (by decide) rfl ?_
    refine r_loc [2, 3, 0] rfl ?_
    obtain ⟨q7, eq7, hf⟩ := ob_some hf
    refine t_X5_drift_L14 hC N u 0 q7 eq7 ?_
    refine r_aload_n hC dX5_drift_53 0 rfl ?_
    refine r_getr hC fd_RX5_10 dC_0 rfl dX5_drift_54 ?_
    obtain ⟨r8, er8, hf⟩ := ob_some hf
    refine r_cvi (As := []) (rest := []) hC (c_X1_standing isR_1 er8) yv_X1_standing ml_RX5_62 dC_1 ⟨by decide, by decide, rfl, rfl⟩ rfl rfl (Nat.le_of_ble_eq_true rfl) dX5_drift_57 ?_
    have hf := Option.some.inj hf
    subst hf
    exact r_iret hC dX5_drift_60 hk
  · have hf := ite_f c2 hf
    refine r_iload_n hC dX5_drift_10 0 rfl ?_
    have hf := Option.some.inj hf
    subst hf
    exact r_iret hC dX5_drift_11 hk
set_option maxHeartbeats 4000000 in
set_option maxRecDepth 100000 in
theorem c_X5_drift {l : Launch} {G : zG} {N : Nat} {u : zS} {v1 : Int32} {r : Int32 × zS} (hf : f_X5_drift N u v1 = some r) : zM l dscC yX5_drift cX5_drift 4 (some .int) rm_X5_drift G [.ref (G.1 0), .int v1] u (some (.int r.1)) r.2 := zM.of (by decide) (Nat.le_of_ble_eq_true rfl) (fun X hC => t_X5_drift hC r hf ⟨rfl, rfl⟩)
set_option maxHeartbeats 4000000 in
set_option maxRecDepth 100000 in
theorem t_X5_undo {l : Launch} {G : zG} {X : zX} {K : Option Value → zS → Prop} (hC : zC G X cX5_undo 1 RX5 (some .int)) {u : zS} (o : Int32 × zS) (hf : f_X5_undo u = some o) (hk : K (some (.int o.1)) o.2) : zW dscC l rm_X5_undo G X K u 0 [(0, .ref (G.1 0))] [] := by
  unfold f_X5_undo at hf
  refine r_aload_n hC dX5_undo_0 0 rfl ?_
  refine r_getr hC fd_RX5_10 dC_0 rfl dX5_undo_1 ?_
  refine r_getr hC fd_RX5_70 dC_1 rfl dX5_undo_4 ?_
  refine r_geti hC fd_RX5_163 dC_7 rfl dX5_undo_7 ?_
  refine r_if_gt (tgt := 16) hC dX5_undo_10 (by decide) (fun c1 => ?_) (fun c1 => ?_)
  · have hf := ite_t c1 hf
    refine r_aload_n hC dX5_undo_16 0 rfl ?_
    refine r_getr hC fd_RX5_10 dC_0 rfl dX5_undo_17 ?_
    refine r_getr hC fd_RX5_70 dC_1 rfl dX5_undo_20 ?_
    refine r_aload_n hC dX5_undo_23 0 rfl ?_
    refine r_getr hC fd_RX5_10 dC_0 rfl dX5_undo_24 ?_
    obtain ⟨r2, er2, hf⟩ := ob_some hf
    refine r_cvv (As := [.ref (G.1 1)]) (rest := []) hC (c_X0_bringBack isR_1 er2) yv_X0_bringBack ml_RX5_187 dC_7 ⟨by decide, by decide, rfl, rfl⟩ rfl rfl (Nat.le_of_ble_eq_true rfl) dX5_undo_27 ?_
    refine r_aload_n hC dX5_undo_30 0 rfl ?_
    refine r_getr hC fd_RX5_10 dC_0 rfl dX5_undo_31 ?_
    refine r_getr hC fd_RX5_70 dC_1 rfl dX5_undo_34 ?_
    refine r_geti hC fd_RX5_163 dC_7 rfl dX5_undo_37 ?_
    have hf := Option.some.inj hf
    subst hf
    exact r_iret hC dX5_undo_40 hk
  · have hf := ite_f c1 hf
    refine r_bipush (v := (-4)) hC dX5_undo_13 (by decide) ?_
    have hf := Option.some.inj hf
    subst hf
    exact r_iret hC dX5_undo_15 hk
set_option maxHeartbeats 4000000 in
set_option maxRecDepth 100000 in
theorem c_X5_undo {l : Launch} {G : zG} {u : zS} {r : Int32 × zS} (hf : f_X5_undo u = some r) : zM l dscC yX5_undo cX5_undo 1 (some .int) rm_X5_undo G [.ref (G.1 0)] u (some (.int r.1)) r.2 := zM.of (by decide) (Nat.le_of_ble_eq_true rfl) (fun X hC => t_X5_undo hC r hf ⟨rfl, rfl⟩)
set_option maxHeartbeats 4000000 in
set_option maxRecDepth 100000 in
theorem t_X5_seed {l : Launch} {G : zG} {X : zX} {K : Option Value → zS → Prop} (hC : zC G X cX5_seed 3 RX5 (some .int)) {u : zS} {v1 : Int32} (o : Int32 × zS) (hf : f_X5_seed u v1 = o) (hk : K (some (.int o.1)) o.2) : zW dscC l rm_X5_seed G X K u 0 [(0, .ref (G.1 0)), (1, .int v1)] [] := by
  unfold f_X5_seed at hf
  refine r_iload_n hC dX5_seed_0 1 rfl ?_
  refine r_if_ge (tgt := 6) hC dX5_seed_1 (by decide) (fun c1 => ?_) (fun c1 => ?_)
  · have hf := ite_t c1 hf
    refine r_aload_n hC dX5_seed_6 0 rfl ?_
    refine r_getr hC fd_RX5_10 dC_0 rfl dX5_seed_7 ?_
    refine r_geti hC fd_RX5_147 dC_1 rfl dX5_seed_10 ?_
    refine r_istore_n (lv' := [(2, .int (u.1 1 10)), (0, .ref (G.1 0)), (1, .int v1)]) hC dX5_seed_13 rfl (by decide) rfl ?_
    refine r_aload_n hC dX5_seed_14 1 rfl ?_
    refine r_getr hC fd_RX5_10 dC_0 rfl dX5_seed_15 ?_
    refine r_iload_n hC dX5_seed_18 2 rfl ?_
    refine r_puti hC fp_RX5_147 dC_1 rfl dX5_seed_19 ?_
    refine r_tops (fun u2 eu2 => ?_)
    have hf := olet_at eu2 hf
    refine r_iload_n hC dX5_seed_22 0 rfl ?_
    subst hf
    exact r_iret hC dX5_seed_23 hk
  · have hf := ite_f c1 hf
    refine r_iconst (v := (-1)) hC dX5_seed_4 (by decide) ?_
    subst hf
    exact r_iret hC dX5_seed_5 hk
set_option maxHeartbeats 4000000 in
set_option maxRecDepth 100000 in
theorem c_X5_seed {l : Launch} {G : zG} {u : zS} {v1 : Int32} {r : Int32 × zS} (hf : f_X5_seed u v1 = r) : zM l dscC yX5_seed cX5_seed 3 (some .int) rm_X5_seed G [.ref (G.1 0), .int v1] u (some (.int r.1)) r.2 := zM.of (by decide) (Nat.le_of_ble_eq_true rfl) (fun X hC => t_X5_seed hC r hf ⟨rfl, rfl⟩)
set_option maxHeartbeats 4000000 in
set_option maxRecDepth 100000 in
theorem t_X5_ahead {l : Launch} {G : zG} {X : zX} {K : Option Value → zS → Prop} (hC : zC G X cX5_ahead 3 RX5 (some .int)) {N : Nat} {u : zS} {v1 : Int32} {v2 : Int32} (o : Int32) (hf : f_X5_ahead N u v1 v2 = some o) (hk : K (some (.int o)) u) : zW dscC l rm_X5_ahead G X K u 0 [(0, .ref (G.1 0)), (1, .int v1), (2, .int v2)] [] := by
  unfold f_X5_ahead at hf
  refine r_aload_n hC dX5_ahead_0 0 rfl ?_
  refine r_getr hC fd_RX5_10 dC_0 rfl dX5_ahead_1 ?_
  refine r_iload_n hC dX5_ahead_4 1 rfl ?_
  refine r_cvi (As := [.int v1]) (rest := []) hC (c_X1_hasAngel isR_1) yv_X1_hasAngel ml_RX5_121 dC_1 ⟨by decide, by decide, rfl, rfl⟩ rfl rfl (Nat.le_of_ble_eq_true rfl) dX5_ahead_5 ?_
  refine r_if_eq (tgt := 21) hC dX5_ahead_8 (by decide) (fun c1 => ?_) (fun c1 => ?_)
  · have hf := ite_t c1 hf
    refine r_iconst (v := (-1)) hC dX5_ahead_21 (by decide) ?_
    have hf := Option.some.inj hf
    subst hf
    exact r_iret hC dX5_ahead_22 hk
  · have hf := ite_f c1 hf
    refine r_iload_n hC dX5_ahead_11 2 rfl ?_
    refine r_iconst (v := 0) hC dX5_ahead_12 (by decide) ?_
    refine r_ldc hC cn_RX5_190 dX5_ahead_13 ?_
    refine r_csi (As := [.int v2, .int 0, .int 2000000000]) (rest := []) hC c_X5_within ys_X5_within ml_RX5_83 ⟨by decide, by decide, rfl, rfl⟩ rfl rfl (Nat.le_of_ble_eq_true rfl) dX5_ahead_15 ?_
    refine r_if_ne (tgt := 23) hC dX5_ahead_18 (by decide) (fun c2 => ?_) (fun c2 => ?_)
    · have hf := ite_f c2 hf
      refine r_aload_n hC dX5_ahead_23 0 rfl ?_
      refine r_getr hC fd_RX5_10 dC_0 rfl dX5_ahead_24 ?_
      refine r_aload_n hC dX5_ahead_27 0 rfl ?_
      refine r_getr hC fd_RX5_10 dC_0 rfl dX5_ahead_28 ?_
      refine r_getr hC fd_RX5_124 dC_1 rfl dX5_ahead_31 ?_
      refine r_iload_n hC dX5_ahead_34 1 rfl ?_
      obtain ⟨g3, hf⟩ := og_in hf
      refine r_iald hC dC_2 g3 dX5_ahead_35 ?_
      refine r_iload_n hC dX5_ahead_36 2 rfl ?_
      obtain ⟨r4, er4, hf⟩ := ob_some hf
      refine r_cvi (As := [.int (u.1 2 (Int32.toNatClampNeg v1)), .int v2]) (rest := []) hC (c_X1_placeBehind isR_1 er4) yv_X1_placeBehind ml_RX5_191 dC_1 ⟨by decide, by decide, rfl, rfl⟩ rfl rfl (Nat.le_of_ble_eq_true rfl) dX5_ahead_37 ?_
      have hf := Option.some.inj hf
      subst hf
      exact r_iret hC dX5_ahead_40 hk
    · have hf := ite_t c2 hf
      refine r_iconst (v := (-1)) hC dX5_ahead_21 (by decide) ?_
      have hf := Option.some.inj hf
      subst hf
      exact r_iret hC dX5_ahead_22 hk
set_option maxHeartbeats 4000000 in
set_option maxRecDepth 100000 in
theorem c_X5_ahead {l : Launch} {G : zG} {N : Nat} {u : zS} {v1 : Int32} {v2 : Int32} {r : Int32} (hf : f_X5_ahead N u v1 v2 = some r) : zM l dscC yX5_ahead cX5_ahead 3 (some .int) rm_X5_ahead G [.ref (G.1 0), .int v1, .int v2] u (some (.int r)) u := zM.of (by decide) (Nat.le_of_ble_eq_true rfl) (fun X hC => t_X5_ahead hC r hf ⟨rfl, rfl⟩)
set_option maxHeartbeats 4000000 in
set_option maxRecDepth 100000 in
theorem t_X5_then_L38_B {l : Launch} {G : zG} {X : zX} {K : Option Value → zS → Prop} (hC : zC G X cX5_then 8 RX5 (some .int)) {N : Nat} {u : zS} {v1 : Int32} {v2 : Int32} {v3 : Int32} {rec : Int32 → Int32 → Int32 → Option (Int32 × Int32)} (hrec : ∀ (v4 : Int32) (v5 : Int32) (v6 : Int32) (o : Int32 × Int32), rec v4 v5 v6 = some o → zW dscC l rm_X5_then G X K u 96 [(1, .int v1), (3, .int v3), (4, .int o.1), (5, .int o.2)] [] → zW dscC l rm_X5_then G X K u 38 [(0, .ref (G.1 0)), (1, .int v1), (2, .int v2), (3, .int v3), (4, .int v4), (5, .int v5), (6, .int v6)] []) : ∀ (v4 : Int32) (v5 : Int32) (v6 : Int32) (o : Int32 × Int32), f_X5_then_L38_B N u v1 v2 v3 rec v4 v5 v6 = some o → zW dscC l rm_X5_then G X K u 96 [(1, .int v1), (3, .int v3), (4, .int o.1), (5, .int o.2)] [] → zW dscC l rm_X5_then G X K u 38 [(0, .ref (G.1 0)), (1, .int v1), (2, .int v2), (3, .int v3), (4, .int v4), (5, .int v5), (6, .int v6)] [] := by
  intro v4 v5 v6 o hf hk
  unfold f_X5_then_L38_B at hf
  refine r_iload hC dX5_then_38 6 rfl ?_
  refine r_aload_n hC dX5_then_40 0 rfl ?_
  refine r_getr hC fd_RX5_10 dC_0 rfl dX5_then_41 ?_
  refine r_geti hC fd_RX5_58 dC_1 rfl dX5_then_44 ?_
  refine r_icmp_ge (tgt := 96) hC dX5_then_47 (by decide) (fun c4 => ?_) (fun c4 => ?_)
  · have hf := ite_t c4 hf
    have hf := Option.some.inj hf
    subst hf
    refine r_loc [1, 3, 4, 5] rfl ?_
    exact hk
  · have hf := ite_f c4 hf
    refine r_aload_n hC dX5_then_50 0 rfl ?_
    refine r_getr hC fd_RX5_10 dC_0 rfl dX5_then_51 ?_
    refine r_aload_n hC dX5_then_54 0 rfl ?_
    refine r_getr hC fd_RX5_10 dC_0 rfl dX5_then_55 ?_
    refine r_getr hC fd_RX5_124 dC_1 rfl dX5_then_58 ?_
    refine r_iload hC dX5_then_61 6 rfl ?_
    obtain ⟨g5, hf⟩ := og_in hf
    refine r_iald hC dC_2 g5 dX5_then_63 ?_
    refine r_iload_n hC dX5_then_64 2 rfl ?_
    obtain ⟨r6, er6, hf⟩ := ob_some hf
    refine r_cvi (As := [.int (u.1 2 (Int32.toNatClampNeg v6)), .int v2]) (rest := []) hC (c_X1_placeBehind isR_1 er6) yv_X1_placeBehind ml_RX5_191 dC_1 ⟨by decide, by decide, rfl, rfl⟩ rfl rfl (Nat.le_of_ble_eq_true rfl) dX5_then_65 ?_
    refine r_istore (lv' := [(7, .int r6), (0, .ref (G.1 0)), (1, .int v1), (2, .int v2), (3, .int v3), (4, .int v4), (5, .int v5), (6, .int v6)]) hC dX5_then_68 (by decide) rfl ?_
    refine r_iload hC dX5_then_70 5 rfl ?_
    refine r_iload hC dX5_then_72 0 rfl ?_
    refine r_csi (As := [.int r6]) (rest := [.int v4]) hC c_X5_bitOf ys_X5_bitOf ml_RX5_194 ⟨by decide, by decide, rfl, rfl⟩ rfl rfl (Nat.le_of_ble_eq_true rfl) dX5_then_74 ?_
    refine r_ior hC dX5_then_77 ?_
    refine r_topi (fun w7 ew7 => ?_)
    have hf := olet_at ew7 hf
    refine r_istore (lv' := [(4, .int w7), (7, .int r6), (0, .ref (G.1 0)), (1, .int v1), (2, .int v2), (3, .int v3), (5, .int v5), (6, .int v6)]) hC dX5_then_78 (by decide) rfl ?_
    refine r_iload hC dX5_then_80 1 rfl ?_
    refine r_iload_n hC dX5_then_82 3 rfl ?_
    refine r_icmp_ne (tgt := 90) hC dX5_then_83 (by decide) (fun c8 => ?_) (fun c8 => ?_)
    · have hf := ite_f c8 hf
      refine r_iinc (v := 1) (lv' := [(6, .int (v6 + 1)), (4, .int w7), (7, .int r6), (0, .ref (G.1 0)), (1, .int v1), (2, .int v2), (3, .int v3), (5, .int v5)]) hC dX5_then_90 7 rfl (by decide) (by decide) rfl ?_
      refine r_goto (tgt := 38) hC dX5_then_93 (by decide) ?_
      refine r_loc [3, 4, 5, 6, 1, 7, 0] rfl ?_
      exact hrec w7 v5 (v6 + 1) o hf hk
    · have hf := ite_t c8 hf
      refine r_iload hC dX5_then_86 7 rfl ?_
      refine r_istore (lv' := [(5, .int v6), (4, .int w7), (7, .int r6), (0, .ref (G.1 0)), (1, .int v1), (2, .int v2), (3, .int v3), (6, .int v6)]) hC dX5_then_88 (by decide) rfl ?_
      refine r_iinc (v := 1) (lv' := [(6, .int (v6 + 1)), (5, .int v6), (4, .int w7), (7, .int r6), (0, .ref (G.1 0)), (1, .int v1), (2, .int v2), (3, .int v3)]) hC dX5_then_90 7 rfl (by decide) (by decide) rfl ?_
      refine r_goto (tgt := 38) hC dX5_then_93 (by decide) ?_
      refine r_loc [4, 5, 6, 7, 2, 1, 0] rfl ?_
      exact hrec w7 v6 (v6 + 1) o hf hk
set_option maxHeartbeats 4000000 in
set_option maxRecDepth 100000 in
theorem t_X5_then_L38 {l : Launch} {G : zG} {X : zX} {K : Option Value → zS → Prop} (hC : zC G X cX5_then 8 RX5 (some .int)) {N : Nat} {u : zS} {v1 : Int32} {v2 : Int32} {v3 : Int32} : ∀ (n : Nat) (v4 : Int32) (v5 : Int32) (v6 : Int32) (o : Int32 × Int32), f_X5_then_L38 N u v1 v2 v3 n v4 v5 v6 = some o → zW dscC l rm_X5_then G X K u 96 [(1, .int v1), (3, .int v3), (4, .int o.1), (5, .int o.2)] [] → zW dscC l rm_X5_then G X K u 38 [(0, .ref (G.1 0)), (1, .int v1), (2, .int v2), (3, .int v3), (4, .int v4), (5, .int v5), (6, .int v6)] [] := by
  intro n
  induction n with
  | zero => intro v4 v5 v6 o hf; cases hf
  | succ n ih => intro v4 v5 v6 o hf hk; exact t_X5_then_L38_B hC (rec := f_X5_then_L38 N u v1 v2 v3 n) ih v4 v5 v6 o hf hk
set_option maxHeartbeats 4000000 in
set_option maxRecDepth 100000 in
theorem t_X5_then {l : Launch} {G : zG} {X : zX} {K : Option Value → zS → Prop} (hC : zC G X cX5_then 8 RX5 (some .int)) {N : Nat} {u : zS} {v1 : Int32} {v2 : Int32} {v3 : Int32} (o : Int32) (hf : f_X5_then N u v1 v2 v3 = some o) (hk : K (some (.int o)) u) : zW dscC l rm_X5_then G X K u 0 [(0, .ref (G.1 0)), (1, .int v1), (2, .int v2), (3, .int v3)] [] := by
  unfold f_X5_then at hf
  refine r_iload_n hC dX5_then_0 1 rfl ?_
  refine r_csi (As := [.int v1]) (rest := []) hC c_X5_isPlace ys_X5_isPlace ml_RX5_54 ⟨by decide, by decide, rfl, rfl⟩ rfl rfl (Nat.le_of_ble_eq_true rfl) dX5_then_1 ?_
  refine r_if_eq (tgt := 26) hC dX5_then_4 (by decide) (fun c1 => ?_) (fun c1 => ?_)
  · have hf := ite_t c1 hf
    refine r_iconst (v := (-1)) hC dX5_then_26 (by decide) ?_
    have hf := Option.some.inj hf
    subst hf
    exact r_iret hC dX5_then_27 hk
  · have hf := ite_f c1 hf
    refine r_iload_n hC dX5_then_7 2 rfl ?_
    refine r_iconst (v := 0) hC dX5_then_8 (by decide) ?_
    refine r_ldc hC cn_RX5_190 dX5_then_9 ?_
    refine r_csi (As := [.int v2, .int 0, .int 2000000000]) (rest := []) hC c_X5_within ys_X5_within ml_RX5_83 ⟨by decide, by decide, rfl, rfl⟩ rfl rfl (Nat.le_of_ble_eq_true rfl) dX5_then_11 ?_
    refine r_if_eq (tgt := 26) hC dX5_then_14 (by decide) (fun c2 => ?_) (fun c2 => ?_)
    · have hf := ite_t c2 hf
      refine r_iconst (v := (-1)) hC dX5_then_26 (by decide) ?_
      have hf := Option.some.inj hf
      subst hf
      exact r_iret hC dX5_then_27 hk
    · have hf := ite_f c2 hf
      refine r_iload_n hC dX5_then_17 3 rfl ?_
      refine r_iconst (v := 0) hC dX5_then_18 (by decide) ?_
      refine r_iconst (v := 1) hC dX5_then_19 (by decide) ?_
      refine r_csi (As := [.int v3, .int 0, .int 1]) (rest := []) hC c_X5_within ys_X5_within ml_RX5_83 ⟨by decide, by decide, rfl, rfl⟩ rfl rfl (Nat.le_of_ble_eq_true rfl) dX5_then_20 ?_
      refine r_if_ne (tgt := 28) hC dX5_then_23 (by decide) (fun c3 => ?_) (fun c3 => ?_)
      · have hf := ite_f c3 hf
        refine r_iconst (v := 0) hC dX5_then_28 (by decide) ?_
        refine r_istore (lv' := [(4, .int 0), (0, .ref (G.1 0)), (1, .int v1), (2, .int v2), (3, .int v3)]) hC dX5_then_29 (by decide) rfl ?_
        refine r_bipush (v := (-4)) hC dX5_then_31 (by decide) ?_
        refine r_istore (lv' := [(5, .int (-4)), (4, .int 0), (0, .ref (G.1 0)), (1, .int v1), (2, .int v2), (3, .int v3)]) hC dX5_then_33 (by decide) rfl ?_
        refine r_iconst (v := 0) hC dX5_then_35 (by decide) ?_
        refine r_istore (lv' := [(6, .int 0), (5, .int (-4)), (4, .int 0), (0, .ref (G.1 0)), (1, .int v1), (2, .int v2), (3, .int v3)]) hC dX5_then_36 (by decide) rfl ?_
        refine r_loc [3, 4, 5, 6, 2, 1, 0] rfl ?_
        obtain ⟨q9, eq9, hf⟩ := ob_some hf
        refine t_X5_then_L38 hC N 0 (-4) 0 q9 eq9 ?_
        refine r_iload_n hC dX5_then_96 1 rfl ?_
        refine r_if_ne (tgt := 105) hC dX5_then_97 (by decide) (fun c10 => ?_) (fun c10 => ?_)
        · have hf := ite_f c10 hf
          refine r_iload hC dX5_then_105 2 rfl ?_
          refine r_iload_n hC dX5_then_107 0 rfl ?_
          refine r_csi (As := [.int q9.1, .int v1]) (rest := []) hC c_X5_seenFrom ys_X5_seenFrom ml_RX5_127 ⟨by decide, by decide, rfl, rfl⟩ rfl rfl (Nat.le_of_ble_eq_true rfl) dX5_then_108 ?_
          have hf := Option.some.inj hf
          subst hf
          exact r_iret hC dX5_then_111 hk
        · have hf := ite_t c10 hf
          refine r_iload hC dX5_then_100 3 rfl ?_
          refine r_goto (tgt := 111) hC dX5_then_102 (by decide) ?_
          have hf := Option.some.inj hf
          subst hf
          exact r_iret hC dX5_then_111 hk
      · have hf := ite_t c3 hf
        refine r_iconst (v := (-1)) hC dX5_then_26 (by decide) ?_
        have hf := Option.some.inj hf
        subst hf
        exact r_iret hC dX5_then_27 hk
set_option maxHeartbeats 4000000 in
set_option maxRecDepth 100000 in
theorem c_X5_then {l : Launch} {G : zG} {N : Nat} {u : zS} {v1 : Int32} {v2 : Int32} {v3 : Int32} {r : Int32} (hf : f_X5_then N u v1 v2 v3 = some r) : zM l dscC yX5_then cX5_then 8 (some .int) rm_X5_then G [.ref (G.1 0), .int v1, .int v2, .int v3] u (some (.int r)) u := zM.of (by decide) (Nat.le_of_ble_eq_true rfl) (fun X hC => t_X5_then hC r hf ⟨rfl, rfl⟩)
set_option maxHeartbeats 4000000 in
set_option maxRecDepth 100000 in
theorem t_X5_roundsTillAllBack_L4_B {l : Launch} {G : zG} {X : zX} {K : Option Value → zS → Prop} (hC : zC G X cX5_roundsTillAllBack 5 RX5 (some .int)) {N : Nat} {u : zS} {rec : Int32 → Int32 → Option (Int32)} (hrec : ∀ (v1 : Int32) (v2 : Int32) (o : Int32), rec v1 v2 = some o → zW dscC l rm_X5_roundsTillAllBack G X K u 57 [(1, .int o)] [] → zW dscC l rm_X5_roundsTillAllBack G X K u 4 [(0, .ref (G.1 0)), (1, .int v1), (2, .int v2)] []) : ∀ (v1 : Int32) (v2 : Int32) (o : Int32), f_X5_roundsTillAllBack_L4_B N u rec v1 v2 = some o → zW dscC l rm_X5_roundsTillAllBack G X K u 57 [(1, .int o)] [] → zW dscC l rm_X5_roundsTillAllBack G X K u 4 [(0, .ref (G.1 0)), (1, .int v1), (2, .int v2)] [] := by
  intro v1 v2 o hf hk
  unfold f_X5_roundsTillAllBack_L4_B at hf
  refine r_iload_n hC dX5_roundsTillAllBack_4 2 rfl ?_
  refine r_aload_n hC dX5_roundsTillAllBack_5 0 rfl ?_
  refine r_getr hC fd_RX5_10 dC_0 rfl dX5_roundsTillAllBack_6 ?_
  refine r_geti hC fd_RX5_58 dC_1 rfl dX5_roundsTillAllBack_9 ?_
  refine r_icmp_ge (tgt := 57) hC dX5_roundsTillAllBack_12 (by decide) (fun c1 => ?_) (fun c1 => ?_)
  · have hf := ite_t c1 hf
    have hf := Option.some.inj hf
    subst hf
    refine r_loc [1] rfl ?_
    exact hk
  · have hf := ite_f c1 hf
    refine r_aload_n hC dX5_roundsTillAllBack_15 0 rfl ?_
    refine r_getr hC fd_RX5_10 dC_0 rfl dX5_roundsTillAllBack_16 ?_
    refine r_aload_n hC dX5_roundsTillAllBack_19 0 rfl ?_
    refine r_getr hC fd_RX5_10 dC_0 rfl dX5_roundsTillAllBack_20 ?_
    refine r_getr hC fd_RX5_124 dC_1 rfl dX5_roundsTillAllBack_23 ?_
    refine r_iload_n hC dX5_roundsTillAllBack_26 2 rfl ?_
    obtain ⟨g2, hf⟩ := og_in hf
    refine r_iald hC dC_2 g2 dX5_roundsTillAllBack_27 ?_
    obtain ⟨r3, er3, hf⟩ := ob_some hf
    refine r_cvi (As := [.int (u.1 2 (Int32.toNatClampNeg v2))]) (rest := []) hC (c_X1_roundsTillBack isR_1 er3) yv_X1_roundsTillBack ml_RX5_200 dC_1 ⟨by decide, by decide, rfl, rfl⟩ rfl rfl (Nat.le_of_ble_eq_true rfl) dX5_roundsTillAllBack_28 ?_
    refine r_istore_n (lv' := [(3, .int r3), (0, .ref (G.1 0)), (1, .int v1), (2, .int v2)]) hC dX5_roundsTillAllBack_31 rfl (by decide) rfl ?_
    refine r_iload_n hC dX5_roundsTillAllBack_32 2 rfl ?_
    refine r_iload_n hC dX5_roundsTillAllBack_33 0 rfl ?_
    obtain ⟨r4, er4, hf⟩ := ob_some hf
    refine r_csi (As := [.int v1, .int r3]) (rest := []) hC (c_X5_greatestCommon er4) ys_X5_greatestCommon ml_RX5_229 ⟨by decide, by decide, rfl, rfl⟩ rfl rfl (Nat.le_of_ble_eq_true rfl) dX5_roundsTillAllBack_34 ?_
    refine r_istore (lv' := [(4, .int r4), (3, .int r3), (0, .ref (G.1 0)), (1, .int v1), (2, .int v2)]) hC dX5_roundsTillAllBack_37 (by decide) rfl ?_
    refine r_iload hC dX5_roundsTillAllBack_39 0 rfl ?_
    refine r_if_le (tgt := 51) hC dX5_roundsTillAllBack_41 (by decide) (fun c5 => ?_) (fun c5 => ?_)
    · have hf := ite_t c5 hf
      refine r_iinc (v := 1) (lv' := [(2, .int (v2 + 1)), (4, .int r4), (3, .int r3), (0, .ref (G.1 0)), (1, .int v1)]) hC dX5_roundsTillAllBack_51 4 rfl (by decide) (by decide) rfl ?_
      refine r_goto (tgt := 4) hC dX5_roundsTillAllBack_54 (by decide) ?_
      refine r_loc [3, 4, 0] rfl ?_
      exact hrec v1 (v2 + 1) o hf hk
    · have hf := ite_f c5 hf
      refine r_iload_n hC dX5_roundsTillAllBack_44 3 rfl ?_
      refine r_iload hC dX5_roundsTillAllBack_45 0 rfl ?_
      obtain ⟨g6, hf⟩ := og_ne hf
      refine r_idiv (x := v1) (y := r4) hC dX5_roundsTillAllBack_47 g6 ?_
      refine r_iload_n hC dX5_roundsTillAllBack_48 1 rfl ?_
      refine r_imul hC dX5_roundsTillAllBack_49 ?_
      refine r_topi (fun w7 ew7 => ?_)
      have hf := olet_at ew7 hf
      refine r_istore_n (lv' := [(1, .int w7), (4, .int r4), (3, .int r3), (0, .ref (G.1 0)), (2, .int v2)]) hC dX5_roundsTillAllBack_50 rfl (by decide) rfl ?_
      refine r_iinc (v := 1) (lv' := [(2, .int (v2 + 1)), (1, .int w7), (4, .int r4), (3, .int r3), (0, .ref (G.1 0))]) hC dX5_roundsTillAllBack_51 4 rfl (by decide) (by decide) rfl ?_
      refine r_goto (tgt := 4) hC dX5_roundsTillAllBack_54 (by decide) ?_
      refine r_loc [4, 1, 0] rfl ?_
      exact hrec w7 (v2 + 1) o hf hk
set_option maxHeartbeats 4000000 in
set_option maxRecDepth 100000 in
theorem t_X5_roundsTillAllBack_L4 {l : Launch} {G : zG} {X : zX} {K : Option Value → zS → Prop} (hC : zC G X cX5_roundsTillAllBack 5 RX5 (some .int)) {N : Nat} {u : zS} : ∀ (n : Nat) (v1 : Int32) (v2 : Int32) (o : Int32), f_X5_roundsTillAllBack_L4 N u n v1 v2 = some o → zW dscC l rm_X5_roundsTillAllBack G X K u 57 [(1, .int o)] [] → zW dscC l rm_X5_roundsTillAllBack G X K u 4 [(0, .ref (G.1 0)), (1, .int v1), (2, .int v2)] [] := by
  intro n
  induction n with
  | zero => intro v1 v2 o hf; cases hf
  | succ n ih => intro v1 v2 o hf hk; exact t_X5_roundsTillAllBack_L4_B hC (rec := f_X5_roundsTillAllBack_L4 N u n) ih v1 v2 o hf hk
set_option maxHeartbeats 4000000 in
set_option maxRecDepth 100000 in
theorem t_X5_roundsTillAllBack {l : Launch} {G : zG} {X : zX} {K : Option Value → zS → Prop} (hC : zC G X cX5_roundsTillAllBack 5 RX5 (some .int)) {N : Nat} {u : zS} (o : Int32) (hf : f_X5_roundsTillAllBack N u = some o) (hk : K (some (.int o)) u) : zW dscC l rm_X5_roundsTillAllBack G X K u 0 [(0, .ref (G.1 0))] [] := by
  unfold f_X5_roundsTillAllBack at hf
  refine r_iconst (v := 1) hC dX5_roundsTillAllBack_0 (by decide) ?_
  refine r_istore_n (lv' := [(1, .int 1), (0, .ref (G.1 0))]) hC dX5_roundsTillAllBack_1 rfl (by decide) rfl ?_
  refine r_iconst (v := 0) hC dX5_roundsTillAllBack_2 (by decide) ?_
  refine r_istore_n (lv' := [(2, .int 0), (1, .int 1), (0, .ref (G.1 0))]) hC dX5_roundsTillAllBack_3 rfl (by decide) rfl ?_
  refine r_loc [2, 1, 0] rfl ?_
  obtain ⟨q8, eq8, hf⟩ := ob_some hf
  refine t_X5_roundsTillAllBack_L4 hC N 1 0 q8 eq8 ?_
  refine r_iload_n hC dX5_roundsTillAllBack_57 0 rfl ?_
  have hf := Option.some.inj hf
  subst hf
  exact r_iret hC dX5_roundsTillAllBack_58 hk
set_option maxHeartbeats 4000000 in
set_option maxRecDepth 100000 in
theorem c_X5_roundsTillAllBack {l : Launch} {G : zG} {N : Nat} {u : zS} {r : Int32} (hf : f_X5_roundsTillAllBack N u = some r) : zM l dscC yX5_roundsTillAllBack cX5_roundsTillAllBack 5 (some .int) rm_X5_roundsTillAllBack G [.ref (G.1 0)] u (some (.int r)) u := zM.of (by decide) (Nat.le_of_ble_eq_true rfl) (fun X hC => t_X5_roundsTillAllBack hC r hf ⟨rfl, rfl⟩)
set_option maxHeartbeats 4000000 in
set_option maxRecDepth 100000 in
theorem t_X5_back {l : Launch} {G : zG} {X : zX} {K : Option Value → zS → Prop} (hC : zC G X cX5_back 2 RX5 (some .int)) {N : Nat} {u : zS} {v1 : Int32} (o : Int32) (hf : f_X5_back N u v1 = some o) (hk : K (some (.int o)) u) : zW dscC l rm_X5_back G X K u 0 [(0, .ref (G.1 0)), (1, .int v1)] [] := by
  unfold f_X5_back at hf
  refine r_iload_n hC dX5_back_0 1 rfl ?_
  refine r_iconst (v := (-1)) hC dX5_back_1 (by decide) ?_
  refine r_icmp_ne (tgt := 18) hC dX5_back_2 (by decide) (fun c1 => ?_) (fun c1 => ?_)
  · have hf := ite_f c1 hf
    refine r_aload_n hC dX5_back_18 0 rfl ?_
    refine r_getr hC fd_RX5_10 dC_0 rfl dX5_back_19 ?_
    refine r_iload_n hC dX5_back_22 1 rfl ?_
    refine r_cvi (As := [.int v1]) (rest := []) hC (c_X1_hasAngel isR_1) yv_X1_hasAngel ml_RX5_121 dC_1 ⟨by decide, by decide, rfl, rfl⟩ rfl rfl (Nat.le_of_ble_eq_true rfl) dX5_back_23 ?_
    refine r_if_ne (tgt := 31) hC dX5_back_26 (by decide) (fun c2 => ?_) (fun c2 => ?_)
    · have hf := ite_f c2 hf
      refine r_aload_n hC dX5_back_31 0 rfl ?_
      refine r_getr hC fd_RX5_10 dC_0 rfl dX5_back_32 ?_
      refine r_geti hC fd_RX5_97 dC_1 rfl dX5_back_35 ?_
      refine r_aload_n hC dX5_back_38 0 rfl ?_
      refine r_getr hC fd_RX5_10 dC_0 rfl dX5_back_39 ?_
      refine r_aload_n hC dX5_back_42 0 rfl ?_
      refine r_getr hC fd_RX5_10 dC_0 rfl dX5_back_43 ?_
      refine r_getr hC fd_RX5_124 dC_1 rfl dX5_back_46 ?_
      refine r_iload_n hC dX5_back_49 1 rfl ?_
      obtain ⟨g3, hf⟩ := og_in hf
      refine r_iald hC dC_2 g3 dX5_back_50 ?_
      obtain ⟨r4, er4, hf⟩ := ob_some hf
      refine r_cvi (As := [.int (u.1 2 (Int32.toNatClampNeg v1))]) (rest := [.int (u.1 1 8)]) hC (c_X1_roundsTillBack isR_1 er4) yv_X1_roundsTillBack ml_RX5_200 dC_1 ⟨by decide, by decide, rfl, rfl⟩ rfl rfl (Nat.le_of_ble_eq_true rfl) dX5_back_51 ?_
      refine r_imul hC dX5_back_54 ?_
      have hf := Option.some.inj hf
      subst hf
      exact r_iret hC dX5_back_55 hk
    · have hf := ite_t c2 hf
      refine r_iconst (v := (-1)) hC dX5_back_29 (by decide) ?_
      have hf := Option.some.inj hf
      subst hf
      exact r_iret hC dX5_back_30 hk
  · have hf := ite_t c1 hf
    refine r_aload_n hC dX5_back_5 0 rfl ?_
    refine r_getr hC fd_RX5_10 dC_0 rfl dX5_back_6 ?_
    refine r_geti hC fd_RX5_97 dC_1 rfl dX5_back_9 ?_
    refine r_aload_n hC dX5_back_12 0 rfl ?_
    obtain ⟨r5, er5, hf⟩ := ob_some hf
    refine r_cvi (As := []) (rest := [.int (u.1 1 8)]) hC (c_X5_roundsTillAllBack er5) yv_X5_roundsTillAllBack ml_RX5_197 dC_0 ⟨by decide, by decide, rfl, rfl⟩ rfl rfl (Nat.le_of_ble_eq_true rfl) dX5_back_13 ?_
    refine r_imul hC dX5_back_16 ?_
    have hf := Option.some.inj hf
    subst hf
    exact r_iret hC dX5_back_17 hk
set_option maxHeartbeats 4000000 in
set_option maxRecDepth 100000 in
theorem c_X5_back {l : Launch} {G : zG} {N : Nat} {u : zS} {v1 : Int32} {r : Int32} (hf : f_X5_back N u v1 = some r) : zM l dscC yX5_back cX5_back 2 (some .int) rm_X5_back G [.ref (G.1 0), .int v1] u (some (.int r)) u := zM.of (by decide) (Nat.le_of_ble_eq_true rfl) (fun X hC => t_X5_back hC r hf ⟨rfl, rfl⟩)
set_option maxHeartbeats 4000000 in
set_option maxRecDepth 100000 in
theorem t_X5_been_L31_B {l : Launch} {G : zG} {X : zX} {K : Option Value → zS → Prop} (hC : zC G X cX5_been 5 RX5 (some .int)) {N : Nat} {u : zS} {rec : Int32 → Int32 → Int32 → Option (Int32)} (hrec : ∀ (v2 : Int32) (v3 : Int32) (v4 : Int32) (o : Int32), rec v2 v3 v4 = some o → zW dscC l rm_X5_been G X K u 78 [(3, .int o)] [] → zW dscC l rm_X5_been G X K u 31 [(0, .ref (G.1 0)), (2, .int v2), (3, .int v3), (4, .int v4)] []) : ∀ (v2 : Int32) (v3 : Int32) (v4 : Int32) (o : Int32), f_X5_been_L31_B N u rec v2 v3 v4 = some o → zW dscC l rm_X5_been G X K u 78 [(3, .int o)] [] → zW dscC l rm_X5_been G X K u 31 [(0, .ref (G.1 0)), (2, .int v2), (3, .int v3), (4, .int v4)] [] := by
  intro v2 v3 v4 o hf hk
  unfold f_X5_been_L31_B at hf
  refine r_iload hC dX5_been_31 3 rfl ?_
  refine r_bipush (v := 8) hC dX5_been_33 (by decide) ?_
  refine r_aload_n hC dX5_been_35 0 rfl ?_
  refine r_getr hC fd_RX5_10 dC_0 rfl dX5_been_36 ?_
  refine r_geti hC fd_RX5_97 dC_1 rfl dX5_been_39 ?_
  refine r_imul hC dX5_been_42 ?_
  refine r_icmp_ge (tgt := 78) hC dX5_been_43 (by decide) (fun c5 => ?_) (fun c5 => ?_)
  · have hf := ite_t c5 hf
    have hf := Option.some.inj hf
    subst hf
    refine r_loc [2] rfl ?_
    exact hk
  · have hf := ite_f c5 hf
    refine r_aload_n hC dX5_been_46 0 rfl ?_
    refine r_getr hC fd_RX5_10 dC_0 rfl dX5_been_47 ?_
    refine r_iload_n hC dX5_been_50 1 rfl ?_
    refine r_aload_n hC dX5_been_51 0 rfl ?_
    refine r_getr hC fd_RX5_10 dC_0 rfl dX5_been_52 ?_
    refine r_geti hC fd_RX5_154 dC_1 rfl dX5_been_55 ?_
    refine r_iload hC dX5_been_58 3 rfl ?_
    refine r_iadd hC dX5_been_60 ?_
    obtain ⟨r6, er6, hf⟩ := ob_some hf
    refine r_cvi (As := [.int v2, .int ((u.1 1 9) + v4)]) (rest := []) hC (c_X1_goesOn isR_1 er6) yv_X1_goesOn ml_RX5_203 dC_1 ⟨by decide, by decide, rfl, rfl⟩ rfl rfl (Nat.le_of_ble_eq_true rfl) dX5_been_61 ?_
    refine r_istore_n (lv' := [(2, .int r6), (0, .ref (G.1 0)), (3, .int v3), (4, .int v4)]) hC dX5_been_64 rfl (by decide) rfl ?_
    refine r_iload_n hC dX5_been_65 2 rfl ?_
    refine r_iload_n hC dX5_been_66 0 rfl ?_
    refine r_csi (As := [.int r6]) (rest := [.int v3]) hC c_X5_bitOf ys_X5_bitOf ml_RX5_194 ⟨by decide, by decide, rfl, rfl⟩ rfl rfl (Nat.le_of_ble_eq_true rfl) dX5_been_67 ?_
    refine r_ior hC dX5_been_70 ?_
    refine r_topi (fun w7 ew7 => ?_)
    have hf := olet_at ew7 hf
    refine r_istore_n (lv' := [(3, .int w7), (2, .int r6), (0, .ref (G.1 0)), (4, .int v4)]) hC dX5_been_71 rfl (by decide) rfl ?_
    refine r_iinc (v := 1) (lv' := [(4, .int (v4 + 1)), (3, .int w7), (2, .int r6), (0, .ref (G.1 0))]) hC dX5_been_72 3 rfl (by decide) (by decide) rfl ?_
    refine r_goto (tgt := 31) hC dX5_been_75 (by decide) ?_
    refine r_loc [3, 2, 1, 0] rfl ?_
    exact hrec r6 w7 (v4 + 1) o hf hk
set_option maxHeartbeats 4000000 in
set_option maxRecDepth 100000 in
theorem t_X5_been_L31 {l : Launch} {G : zG} {X : zX} {K : Option Value → zS → Prop} (hC : zC G X cX5_been 5 RX5 (some .int)) {N : Nat} {u : zS} : ∀ (n : Nat) (v2 : Int32) (v3 : Int32) (v4 : Int32) (o : Int32), f_X5_been_L31 N u n v2 v3 v4 = some o → zW dscC l rm_X5_been G X K u 78 [(3, .int o)] [] → zW dscC l rm_X5_been G X K u 31 [(0, .ref (G.1 0)), (2, .int v2), (3, .int v3), (4, .int v4)] [] := by
  intro n
  induction n with
  | zero => intro v2 v3 v4 o hf; cases hf
  | succ n ih => intro v2 v3 v4 o hf hk; exact t_X5_been_L31_B hC (rec := f_X5_been_L31 N u n) ih v2 v3 v4 o hf hk
set_option maxHeartbeats 4000000 in
set_option maxRecDepth 100000 in
theorem t_X5_been {l : Launch} {G : zG} {X : zX} {K : Option Value → zS → Prop} (hC : zC G X cX5_been 5 RX5 (some .int)) {N : Nat} {u : zS} {v1 : Int32} (o : Int32) (hf : f_X5_been N u v1 = some o) (hk : K (some (.int o)) u) : zW dscC l rm_X5_been G X K u 0 [(0, .ref (G.1 0)), (1, .int v1)] [] := by
  unfold f_X5_been at hf
  refine r_aload_n hC dX5_been_0 0 rfl ?_
  refine r_getr hC fd_RX5_10 dC_0 rfl dX5_been_1 ?_
  refine r_iload_n hC dX5_been_4 1 rfl ?_
  refine r_cvi (As := [.int v1]) (rest := []) hC (c_X1_hasAngel isR_1) yv_X1_hasAngel ml_RX5_121 dC_1 ⟨by decide, by decide, rfl, rfl⟩ rfl rfl (Nat.le_of_ble_eq_true rfl) dX5_been_5 ?_
  refine r_if_ne (tgt := 13) hC dX5_been_8 (by decide) (fun c1 => ?_) (fun c1 => ?_)
  · have hf := ite_f c1 hf
    refine r_aload_n hC dX5_been_13 0 rfl ?_
    refine r_getr hC fd_RX5_10 dC_0 rfl dX5_been_14 ?_
    refine r_getr hC fd_RX5_124 dC_1 rfl dX5_been_17 ?_
    refine r_iload_n hC dX5_been_20 1 rfl ?_
    obtain ⟨g2, hf⟩ := og_in hf
    refine r_iald hC dC_2 g2 dX5_been_21 ?_
    refine r_topi (fun w3 ew3 => ?_)
    have hf := olet_at ew3 hf
    refine r_istore_n (lv' := [(2, .int w3), (0, .ref (G.1 0)), (1, .int v1)]) hC dX5_been_22 rfl (by decide) rfl ?_
    refine r_iload_n hC dX5_been_23 0 rfl ?_
    refine r_csi (As := [.int w3]) (rest := []) hC c_X5_bitOf ys_X5_bitOf ml_RX5_194 ⟨by decide, by decide, rfl, rfl⟩ rfl rfl (Nat.le_of_ble_eq_true rfl) dX5_been_24 ?_
    refine r_topi (fun w4 ew4 => ?_)
    have hf := olet_at ew4 hf
    refine r_istore_n (lv' := [(3, .int w4), (2, .int w3), (0, .ref (G.1 0)), (1, .int v1)]) hC dX5_been_27 rfl (by decide) rfl ?_
    refine r_iconst (v := 0) hC dX5_been_28 (by decide) ?_
    refine r_istore (lv' := [(4, .int 0), (3, .int w4), (2, .int w3), (0, .ref (G.1 0)), (1, .int v1)]) hC dX5_been_29 (by decide) rfl ?_
    refine r_loc [3, 2, 1, 0] rfl ?_
    obtain ⟨q8, eq8, hf⟩ := ob_some hf
    refine t_X5_been_L31 hC N w3 w4 0 q8 eq8 ?_
    refine r_iload_n hC dX5_been_78 0 rfl ?_
    have hf := Option.some.inj hf
    subst hf
    exact r_iret hC dX5_been_79 hk
  · have hf := ite_t c1 hf
    refine r_iconst (v := (-1)) hC dX5_been_11 (by decide) ?_
    have hf := Option.some.inj hf
    subst hf
    exact r_iret hC dX5_been_12 hk
set_option maxHeartbeats 4000000 in
set_option maxRecDepth 100000 in
theorem c_X5_been {l : Launch} {G : zG} {N : Nat} {u : zS} {v1 : Int32} {r : Int32} (hf : f_X5_been N u v1 = some r) : zM l dscC yX5_been cX5_been 5 (some .int) rm_X5_been G [.ref (G.1 0), .int v1] u (some (.int r)) u := zM.of (by decide) (Nat.le_of_ble_eq_true rfl) (fun X hC => t_X5_been hC r hf ⟨rfl, rfl⟩)
set_option maxHeartbeats 4000000 in
set_option maxRecDepth 100000 in
theorem t_X5_shortest {l : Launch} {G : zG} {X : zX} {K : Option Value → zS → Prop} (hC : zC G X cX5_shortest 3 RX5 (some .int)) {N : Nat} {u : zS} {v1 : Int32} {v2 : Int32} (o : Int32 × zS) (hf : f_X5_shortest N u v1 v2 = some o) (hk : K (some (.int o.1)) o.2) : zW dscC l rm_X5_shortest G X K u 0 [(0, .ref (G.1 0)), (1, .int v1), (2, .int v2)] [] := by
  unfold f_X5_shortest at hf
  refine r_iload_n hC dX5_shortest_0 1 rfl ?_
  refine r_iconst (v := 0) hC dX5_shortest_1 (by decide) ?_
  refine r_sipush (v := 255) hC dX5_shortest_2 (by decide) ?_
  refine r_csi (As := [.int v1, .int 0, .int 255]) (rest := []) hC c_X5_within ys_X5_within ml_RX5_83 ⟨by decide, by decide, rfl, rfl⟩ rfl rfl (Nat.le_of_ble_eq_true rfl) dX5_shortest_5 ?_
  refine r_if_eq (tgt := 16) hC dX5_shortest_8 (by decide) (fun c1 => ?_) (fun c1 => ?_)
  · have hf := ite_t c1 hf
    refine r_iconst (v := (-1)) hC dX5_shortest_16 (by decide) ?_
    have hf := Option.some.inj hf
    subst hf
    exact r_iret hC dX5_shortest_17 hk
  · have hf := ite_f c1 hf
    refine r_iload_n hC dX5_shortest_11 2 rfl ?_
    refine r_iconst (v := (-1)) hC dX5_shortest_12 (by decide) ?_
    refine r_icmp_ge (tgt := 18) hC dX5_shortest_13 (by decide) (fun c2 => ?_) (fun c2 => ?_)
    · have hf := ite_t c2 hf
      refine r_aload_n hC dX5_shortest_18 0 rfl ?_
      refine r_getr hC fd_RX5_39 dC_0 rfl dX5_shortest_19 ?_
      refine r_aload_n hC dX5_shortest_22 0 rfl ?_
      refine r_getr hC fd_RX5_10 dC_0 rfl dX5_shortest_23 ?_
      refine r_aload_n hC dX5_shortest_26 0 rfl ?_
      refine r_getr hC fd_RX5_10 dC_0 rfl dX5_shortest_27 ?_
      obtain ⟨r3, er3, hf⟩ := ob_some hf
      refine r_cvi (As := []) (rest := [.ref (G.1 1), .ref (G.1 37)]) hC (c_X1_standing isR_1 er3) yv_X1_standing ml_RX5_62 dC_1 ⟨by decide, by decide, rfl, rfl⟩ rfl rfl (Nat.le_of_ble_eq_true rfl) dX5_shortest_30 ?_
      obtain ⟨r4, er4, hf⟩ := ob_some hf
      refine r_cvv (As := [.ref (G.1 1), .int r3]) (rest := []) hC (c_X2_explore er4) yv_X2_explore ml_RX5_206 dC_37 ⟨by decide, by decide, rfl, rfl⟩ rfl rfl (Nat.le_of_ble_eq_true rfl) dX5_shortest_33 ?_
      refine r_iload_n hC dX5_shortest_36 2 rfl ?_
      refine r_iconst (v := (-1)) hC dX5_shortest_37 (by decide) ?_
      refine r_icmp_ne (tgt := 52) hC dX5_shortest_38 (by decide) (fun c5 => ?_) (fun c5 => ?_)
      · have hf := ite_f c5 hf
        refine r_aload_n hC dX5_shortest_52 0 rfl ?_
        refine r_getr hC fd_RX5_39 dC_0 rfl dX5_shortest_53 ?_
        refine r_iload_n hC dX5_shortest_56 1 rfl ?_
        refine r_iload_n hC dX5_shortest_57 2 rfl ?_
        obtain ⟨r6, er6, hf⟩ := ob_some hf
        refine r_cvi (As := [.int v1, .int v2]) (rest := []) hC (c_X2_figureOnWay er6) yv_X2_figureOnWay ml_RX5_213 dC_37 ⟨by decide, by decide, rfl, rfl⟩ rfl rfl (Nat.le_of_ble_eq_true rfl) dX5_shortest_58 ?_
        have hf := Option.some.inj hf
        subst hf
        exact r_iret hC dX5_shortest_61 hk
      · have hf := ite_t c5 hf
        refine r_aload_n hC dX5_shortest_41 0 rfl ?_
        refine r_getr hC fd_RX5_39 dC_0 rfl dX5_shortest_42 ?_
        refine r_iload_n hC dX5_shortest_45 1 rfl ?_
        obtain ⟨r7, er7, hf⟩ := ob_some hf
        refine r_cvi (As := [.int v1]) (rest := []) hC (c_X2_howFar er7) yv_X2_howFar ml_RX5_210 dC_37 ⟨by decide, by decide, rfl, rfl⟩ rfl rfl (Nat.le_of_ble_eq_true rfl) dX5_shortest_46 ?_
        refine r_goto (tgt := 61) hC dX5_shortest_49 (by decide) ?_
        have hf := Option.some.inj hf
        subst hf
        exact r_iret hC dX5_shortest_61 hk
    · have hf := ite_f c2 hf
      refine r_iconst (v := (-1)) hC dX5_shortest_16 (by decide) ?_
      have hf := Option.some.inj hf
      subst hf
      exact r_iret hC dX5_shortest_17 hk
set_option maxHeartbeats 4000000 in
set_option maxRecDepth 100000 in
theorem c_X5_shortest {l : Launch} {G : zG} {N : Nat} {u : zS} {v1 : Int32} {v2 : Int32} {r : Int32 × zS} (hf : f_X5_shortest N u v1 v2 = some r) : zM l dscC yX5_shortest cX5_shortest 3 (some .int) rm_X5_shortest G [.ref (G.1 0), .int v1, .int v2] u (some (.int r.1)) r.2 := zM.of (by decide) (Nat.le_of_ble_eq_true rfl) (fun X hC => t_X5_shortest hC r hf ⟨rfl, rfl⟩)
set_option maxHeartbeats 4000000 in
set_option maxRecDepth 100000 in
theorem t_X5_sorts {l : Launch} {G : zG} {X : zX} {K : Option Value → zS → Prop} (hC : zC G X cX5_sorts 1 RX5 (some .int)) {N : Nat} {u : zS} (o : Int32 × zS) (hf : f_X5_sorts N u = some o) (hk : K (some (.int o.1)) o.2) : zW dscC l rm_X5_sorts G X K u 0 [(0, .ref (G.1 0))] [] := by
  unfold f_X5_sorts at hf
  refine r_aload_n hC dX5_sorts_0 0 rfl ?_
  refine r_getr hC fd_RX5_39 dC_0 rfl dX5_sorts_1 ?_
  refine r_aload_n hC dX5_sorts_4 0 rfl ?_
  refine r_getr hC fd_RX5_10 dC_0 rfl dX5_sorts_5 ?_
  refine r_aload_n hC dX5_sorts_8 0 rfl ?_
  refine r_getr hC fd_RX5_10 dC_0 rfl dX5_sorts_9 ?_
  obtain ⟨r1, er1, hf⟩ := ob_some hf
  refine r_cvi (As := []) (rest := [.ref (G.1 1), .ref (G.1 37)]) hC (c_X1_standing isR_1 er1) yv_X1_standing ml_RX5_62 dC_1 ⟨by decide, by decide, rfl, rfl⟩ rfl rfl (Nat.le_of_ble_eq_true rfl) dX5_sorts_12 ?_
  obtain ⟨r2, er2, hf⟩ := ob_some hf
  refine r_cvv (As := [.ref (G.1 1), .int r1]) (rest := []) hC (c_X2_explore er2) yv_X2_explore ml_RX5_206 dC_37 ⟨by decide, by decide, rfl, rfl⟩ rfl rfl (Nat.le_of_ble_eq_true rfl) dX5_sorts_15 ?_
  refine r_aload_n hC dX5_sorts_18 0 rfl ?_
  refine r_getr hC fd_RX5_39 dC_0 rfl dX5_sorts_19 ?_
  refine r_geti hC fd_RX5_216 dC_37 rfl dX5_sorts_22 ?_
  have hf := Option.some.inj hf
  subst hf
  exact r_iret hC dX5_sorts_25 hk
set_option maxHeartbeats 4000000 in
set_option maxRecDepth 100000 in
theorem c_X5_sorts {l : Launch} {G : zG} {N : Nat} {u : zS} {r : Int32 × zS} (hf : f_X5_sorts N u = some r) : zM l dscC yX5_sorts cX5_sorts 1 (some .int) rm_X5_sorts G [.ref (G.1 0)] u (some (.int r.1)) r.2 := zM.of (by decide) (Nat.le_of_ble_eq_true rfl) (fun X hC => t_X5_sorts hC r hf ⟨rfl, rfl⟩)
set_option maxHeartbeats 4000000 in
set_option maxRecDepth 100000 in
theorem t_X5_apart {l : Launch} {G : zG} {X : zX} {K : Option Value → zS → Prop} (hC : zC G X cX5_apart 5 RX5 (some .int)) {N : Nat} {u : zS} {v1 : Int32} {v2 : Int32} {v3 : Int32} (o : Int32 × zS) (hf : f_X5_apart N u v1 v2 v3 = some o) (hk : K (some (.int o.1)) o.2) : zW dscC l rm_X5_apart G X K u 0 [(0, .ref (G.1 0)), (1, .int v1), (2, .int v2), (3, .int v3)] [] := by
  unfold f_X5_apart at hf
  refine r_aload_n hC dX5_apart_0 0 rfl ?_
  refine r_getr hC fd_RX5_10 dC_0 rfl dX5_apart_1 ?_
  refine r_iload_n hC dX5_apart_4 1 rfl ?_
  refine r_cvi (As := [.int v1]) (rest := []) hC (c_X1_hasAngel isR_1) yv_X1_hasAngel ml_RX5_121 dC_1 ⟨by decide, by decide, rfl, rfl⟩ rfl rfl (Nat.le_of_ble_eq_true rfl) dX5_apart_5 ?_
  refine r_if_eq (tgt := 36) hC dX5_apart_8 (by decide) (fun c1 => ?_) (fun c1 => ?_)
  · have hf := ite_t c1 hf
    refine r_iconst (v := (-1)) hC dX5_apart_36 (by decide) ?_
    have hf := Option.some.inj hf
    subst hf
    exact r_iret hC dX5_apart_37 hk
  · have hf := ite_f c1 hf
    refine r_aload_n hC dX5_apart_11 0 rfl ?_
    refine r_getr hC fd_RX5_10 dC_0 rfl dX5_apart_12 ?_
    refine r_iload_n hC dX5_apart_15 2 rfl ?_
    refine r_cvi (As := [.int v2]) (rest := []) hC (c_X1_hasAngel isR_1) yv_X1_hasAngel ml_RX5_121 dC_1 ⟨by decide, by decide, rfl, rfl⟩ rfl rfl (Nat.le_of_ble_eq_true rfl) dX5_apart_16 ?_
    refine r_if_eq (tgt := 36) hC dX5_apart_19 (by decide) (fun c2 => ?_) (fun c2 => ?_)
    · have hf := ite_t c2 hf
      refine r_iconst (v := (-1)) hC dX5_apart_36 (by decide) ?_
      have hf := Option.some.inj hf
      subst hf
      exact r_iret hC dX5_apart_37 hk
    · have hf := ite_f c2 hf
      refine r_iload_n hC dX5_apart_22 1 rfl ?_
      refine r_iload_n hC dX5_apart_23 2 rfl ?_
      refine r_icmp_eq (tgt := 36) hC dX5_apart_24 (by decide) (fun c3 => ?_) (fun c3 => ?_)
      · have hf := ite_t c3 hf
        refine r_iconst (v := (-1)) hC dX5_apart_36 (by decide) ?_
        have hf := Option.some.inj hf
        subst hf
        exact r_iret hC dX5_apart_37 hk
      · have hf := ite_f c3 hf
        refine r_iload_n hC dX5_apart_27 3 rfl ?_
        refine r_iconst (v := 0) hC dX5_apart_28 (by decide) ?_
        refine r_iconst (v := 1) hC dX5_apart_29 (by decide) ?_
        refine r_csi (As := [.int v3, .int 0, .int 1]) (rest := []) hC c_X5_within ys_X5_within ml_RX5_83 ⟨by decide, by decide, rfl, rfl⟩ rfl rfl (Nat.le_of_ble_eq_true rfl) dX5_apart_30 ?_
        refine r_if_ne (tgt := 38) hC dX5_apart_33 (by decide) (fun c4 => ?_) (fun c4 => ?_)
        · have hf := ite_f c4 hf
          refine r_aload_n hC dX5_apart_38 0 rfl ?_
          refine r_getr hC fd_RX5_10 dC_0 rfl dX5_apart_39 ?_
          refine r_getr hC fd_RX5_124 dC_1 rfl dX5_apart_42 ?_
          refine r_iload_n hC dX5_apart_45 1 rfl ?_
          obtain ⟨g5, hf⟩ := og_in hf
          refine r_iald hC dC_2 g5 dX5_apart_46 ?_
          refine r_bipush (v := (-4)) hC dX5_apart_47 (by decide) ?_
          refine r_icmp_eq (tgt := 66) hC dX5_apart_49 (by decide) (fun c6 => ?_) (fun c6 => ?_)
          · have hf := ite_t c6 hf
            refine r_bipush (v := (-2)) hC dX5_apart_66 (by decide) ?_
            have hf := Option.some.inj hf
            subst hf
            exact r_iret hC dX5_apart_68 hk
          · have hf := ite_f c6 hf
            refine r_aload_n hC dX5_apart_52 0 rfl ?_
            refine r_getr hC fd_RX5_10 dC_0 rfl dX5_apart_53 ?_
            refine r_getr hC fd_RX5_124 dC_1 rfl dX5_apart_56 ?_
            refine r_iload_n hC dX5_apart_59 2 rfl ?_
            obtain ⟨g7, hf⟩ := og_in hf
            refine r_iald hC dC_2 g7 dX5_apart_60 ?_
            refine r_bipush (v := (-4)) hC dX5_apart_61 (by decide) ?_
            refine r_icmp_ne (tgt := 69) hC dX5_apart_63 (by decide) (fun c8 => ?_) (fun c8 => ?_)
            · have hf := ite_f c8 hf
              refine r_aload_n hC dX5_apart_69 0 rfl ?_
              refine r_getr hC fd_RX5_39 dC_0 rfl dX5_apart_70 ?_
              refine r_aload_n hC dX5_apart_73 0 rfl ?_
              refine r_getr hC fd_RX5_10 dC_0 rfl dX5_apart_74 ?_
              refine r_aload_n hC dX5_apart_77 0 rfl ?_
              refine r_getr hC fd_RX5_10 dC_0 rfl dX5_apart_78 ?_
              refine r_getr hC fd_RX5_124 dC_1 rfl dX5_apart_81 ?_
              refine r_iload_n hC dX5_apart_84 1 rfl ?_
              obtain ⟨g9, hf⟩ := og_in hf
              refine r_iald hC dC_2 g9 dX5_apart_85 ?_
              refine r_csi (As := [.int (u.1 2 (Int32.toNatClampNeg v1))]) (rest := [.ref (G.1 1), .ref (G.1 37)]) hC c_X5_bitOf ys_X5_bitOf ml_RX5_194 ⟨by decide, by decide, rfl, rfl⟩ rfl rfl (Nat.le_of_ble_eq_true rfl) dX5_apart_86 ?_
              refine r_aload_n hC dX5_apart_89 0 rfl ?_
              refine r_getr hC fd_RX5_10 dC_0 rfl dX5_apart_90 ?_
              refine r_getr hC fd_RX5_124 dC_1 rfl dX5_apart_93 ?_
              refine r_iload_n hC dX5_apart_96 2 rfl ?_
              obtain ⟨g10, hf⟩ := og_in hf
              refine r_iald hC dC_2 g10 dX5_apart_97 ?_
              refine r_csi (As := [.int (u.1 2 (Int32.toNatClampNeg v2))]) (rest := [.int (f_X5_bitOf (u.1 2 (Int32.toNatClampNeg v1))), .ref (G.1 1), .ref (G.1 37)]) hC c_X5_bitOf ys_X5_bitOf ml_RX5_194 ⟨by decide, by decide, rfl, rfl⟩ rfl rfl (Nat.le_of_ble_eq_true rfl) dX5_apart_98 ?_
              refine r_ior hC dX5_apart_101 ?_
              obtain ⟨r11, er11, hf⟩ := ob_some hf
              refine r_cvv (As := [.ref (G.1 1), .int ((f_X5_bitOf (u.1 2 (Int32.toNatClampNeg v1))) ||| (f_X5_bitOf (u.1 2 (Int32.toNatClampNeg v2))))]) (rest := []) hC (c_X2_explore er11) yv_X2_explore ml_RX5_206 dC_37 ⟨by decide, by decide, rfl, rfl⟩ rfl rfl (Nat.le_of_ble_eq_true rfl) dX5_apart_102 ?_
              refine r_aload_n hC dX5_apart_105 0 rfl ?_
              refine r_getr hC fd_RX5_39 dC_0 rfl dX5_apart_106 ?_
              obtain ⟨r12, er12, hf⟩ := ob_some hf
              refine r_cvi (As := []) (rest := []) hC (c_X2_widestPair er12) yv_X2_widestPair ml_RX5_219 dC_37 ⟨by decide, by decide, rfl, rfl⟩ rfl rfl (Nat.le_of_ble_eq_true rfl) dX5_apart_109 ?_
              refine r_istore (lv' := [(4, .int r12), (0, .ref (G.1 0)), (1, .int v1), (2, .int v2), (3, .int v3)]) hC dX5_apart_112 (by decide) rfl ?_
              refine r_iload_n hC dX5_apart_114 4 rfl ?_
              refine r_if_ne (tgt := 130) hC dX5_apart_115 (by decide) (fun c13 => ?_) (fun c13 => ?_)
              · have hf := ite_f c13 hf
                refine r_iload hC dX5_apart_130 0 rfl ?_
                obtain ⟨r14, er14, hf⟩ := ob_some hf
                refine r_csi (As := [.int r12]) (rest := []) hC (c_X5_span er14) ys_X5_span ml_RX5_222 ⟨by decide, by decide, rfl, rfl⟩ rfl rfl (Nat.le_of_ble_eq_true rfl) dX5_apart_132 ?_
                have hf := Option.some.inj hf
                subst hf
                exact r_iret hC dX5_apart_135 hk
              · have hf := ite_t c13 hf
                refine r_aload_n hC dX5_apart_118 1 rfl ?_
                refine r_getr hC fd_RX5_39 dC_0 rfl dX5_apart_119 ?_
                refine r_iload hC dX5_apart_122 0 rfl ?_
                obtain ⟨r15, er15, hf⟩ := ob_some hf
                refine r_cvi (As := [.int r12]) (rest := []) hC (c_X2_howFar er15) yv_X2_howFar ml_RX5_210 dC_37 ⟨by decide, by decide, rfl, rfl⟩ rfl rfl (Nat.le_of_ble_eq_true rfl) dX5_apart_124 ?_
                refine r_goto (tgt := 135) hC dX5_apart_127 (by decide) ?_
                have hf := Option.some.inj hf
                subst hf
                exact r_iret hC dX5_apart_135 hk
            · have hf := ite_t c8 hf
              refine r_bipush (v := (-2)) hC dX5_apart_66 (by decide) ?_
              have hf := Option.some.inj hf
              subst hf
              exact r_iret hC dX5_apart_68 hk
        · have hf := ite_t c4 hf
          refine r_iconst (v := (-1)) hC dX5_apart_36 (by decide) ?_
          have hf := Option.some.inj hf
          subst hf
          exact r_iret hC dX5_apart_37 hk
set_option maxHeartbeats 4000000 in
set_option maxRecDepth 100000 in
theorem c_X5_apart {l : Launch} {G : zG} {N : Nat} {u : zS} {v1 : Int32} {v2 : Int32} {v3 : Int32} {r : Int32 × zS} (hf : f_X5_apart N u v1 v2 v3 = some r) : zM l dscC yX5_apart cX5_apart 5 (some .int) rm_X5_apart G [.ref (G.1 0), .int v1, .int v2, .int v3] u (some (.int r.1)) r.2 := zM.of (by decide) (Nat.le_of_ble_eq_true rfl) (fun X hC => t_X5_apart hC r hf ⟨rfl, rfl⟩)
set_option maxHeartbeats 4000000 in
set_option maxRecDepth 100000 in
theorem t_X5_countWaysOn_L2_B {l : Launch} {G : zG} {X : zX} {K : Option Value → zS → Prop} (hC : zC G X cX5_countWaysOn 3 RX5 none) {N : Nat} {rec : zS → Int32 → Option (zS)} (hrec : ∀ (u : zS) (v1 : Int32) (o : zS), rec u v1 = some o → zW dscC l rm_X5_countWaysOn G X K o 21 [(0, .ref (G.1 0))] [] → zW dscC l rm_X5_countWaysOn G X K u 2 [(0, .ref (G.1 0)), (1, .int v1)] []) : ∀ (u : zS) (v1 : Int32) (o : zS), f_X5_countWaysOn_L2_B N rec u v1 = some o → zW dscC l rm_X5_countWaysOn G X K o 21 [(0, .ref (G.1 0))] [] → zW dscC l rm_X5_countWaysOn G X K u 2 [(0, .ref (G.1 0)), (1, .int v1)] [] := by
  intro u v1 o hf hk
  unfold f_X5_countWaysOn_L2_B at hf
  refine r_iload_n hC dX5_countWaysOn_2 1 rfl ?_
  refine r_bipush (v := 8) hC dX5_countWaysOn_3 (by decide) ?_
  refine r_icmp_ge (tgt := 21) hC dX5_countWaysOn_5 (by decide) (fun c1 => ?_) (fun c1 => ?_)
  · have hf := ite_t c1 hf
    have hf := Option.some.inj hf
    subst hf
    refine r_loc [0] rfl ?_
    exact hk
  · have hf := ite_f c1 hf
    refine r_aload_n hC dX5_countWaysOn_8 0 rfl ?_
    refine r_getr hC fd_RX5_47 dC_0 rfl dX5_countWaysOn_9 ?_
    refine r_iload_n hC dX5_countWaysOn_12 1 rfl ?_
    refine r_iconst (v := 0) hC dX5_countWaysOn_13 (by decide) ?_
    obtain ⟨g2, hf⟩ := og_in hf
    refine r_iast hC dC_43 g2 dX5_countWaysOn_14 ?_
    refine r_tops (fun u3 eu3 => ?_)
    have hf := olet_at eu3 hf
    refine r_iinc (v := 1) (lv' := [(1, .int (v1 + 1)), (0, .ref (G.1 0))]) hC dX5_countWaysOn_15 1 rfl (by decide) (by decide) rfl ?_
    refine r_goto (tgt := 2) hC dX5_countWaysOn_18 (by decide) ?_
    refine r_loc [1, 0] rfl ?_
    exact hrec u3 (v1 + 1) o hf hk
set_option maxHeartbeats 4000000 in
set_option maxRecDepth 100000 in
theorem t_X5_countWaysOn_L2 {l : Launch} {G : zG} {X : zX} {K : Option Value → zS → Prop} (hC : zC G X cX5_countWaysOn 3 RX5 none) {N : Nat} : ∀ (n : Nat) (u : zS) (v1 : Int32) (o : zS), f_X5_countWaysOn_L2 N n u v1 = some o → zW dscC l rm_X5_countWaysOn G X K o 21 [(0, .ref (G.1 0))] [] → zW dscC l rm_X5_countWaysOn G X K u 2 [(0, .ref (G.1 0)), (1, .int v1)] [] := by
  intro n
  induction n with
  | zero => intro u v1 o hf; cases hf
  | succ n ih => intro u v1 o hf hk; exact t_X5_countWaysOn_L2_B hC (rec := f_X5_countWaysOn_L2 N n) ih u v1 o hf hk
set_option maxHeartbeats 4000000 in
set_option maxRecDepth 100000 in
theorem t_X5_countWaysOn_L36_B {l : Launch} {G : zG} {X : zX} {K : Option Value → zS → Prop} (hC : zC G X cX5_countWaysOn 3 RX5 none) {N : Nat} {v1 : Int32} {rec : zS → Int32 → Option (zS)} (hrec : ∀ (u : zS) (v2 : Int32) (o : zS), rec u v2 = some o → zW dscC l rm_X5_countWaysOn G X K o 71 [(0, .ref (G.1 0)), (1, .int v1)] [] → zW dscC l rm_X5_countWaysOn G X K u 36 [(0, .ref (G.1 0)), (1, .int v1), (2, .int v2)] []) : ∀ (u : zS) (v2 : Int32) (o : zS), f_X5_countWaysOn_L36_B N v1 rec u v2 = some o → zW dscC l rm_X5_countWaysOn G X K o 71 [(0, .ref (G.1 0)), (1, .int v1)] [] → zW dscC l rm_X5_countWaysOn G X K u 36 [(0, .ref (G.1 0)), (1, .int v1), (2, .int v2)] [] := by
  intro u v2 o hf hk
  unfold f_X5_countWaysOn_L36_B at hf
  refine r_iload_n hC dX5_countWaysOn_36 2 rfl ?_
  refine r_bipush (v := 8) hC dX5_countWaysOn_37 (by decide) ?_
  refine r_icmp_ge (tgt := 71) hC dX5_countWaysOn_39 (by decide) (fun c6 => ?_) (fun c6 => ?_)
  · have hf := ite_t c6 hf
    have hf := Option.some.inj hf
    subst hf
    refine r_loc [0, 1] rfl ?_
    exact hk
  · have hf := ite_f c6 hf
    refine r_aload_n hC dX5_countWaysOn_42 0 rfl ?_
    refine r_getr hC fd_RX5_47 dC_0 rfl dX5_countWaysOn_43 ?_
    refine r_aload_n hC dX5_countWaysOn_46 0 rfl ?_
    refine r_getr hC fd_RX5_10 dC_0 rfl dX5_countWaysOn_47 ?_
    refine r_iload_n hC dX5_countWaysOn_50 1 rfl ?_
    refine r_iload_n hC dX5_countWaysOn_51 2 rfl ?_
    obtain ⟨r7, er7, hf⟩ := ob_some hf
    refine r_cvi (As := [.int v1, .int v2]) (rest := [.ref (G.1 43)]) hC (c_X1_ledBy isR_1 er7) yv_X1_ledBy ml_RX5_118 dC_1 ⟨by decide, by decide, rfl, rfl⟩ rfl rfl (Nat.le_of_ble_eq_true rfl) dX5_countWaysOn_52 ?_
    refine r_dup2 hC dX5_countWaysOn_55 rfl rfl ?_
    obtain ⟨g8, hf⟩ := og_in hf
    refine r_iald hC dC_43 g8 dX5_countWaysOn_56 ?_
    refine r_aload_n hC dX5_countWaysOn_57 0 rfl ?_
    refine r_getr hC fd_RX5_43 dC_0 rfl dX5_countWaysOn_58 ?_
    refine r_iload_n hC dX5_countWaysOn_61 2 rfl ?_
    obtain ⟨g9, hf⟩ := og_in hf
    refine r_iald hC dC_42 g9 dX5_countWaysOn_62 ?_
    refine r_iadd hC dX5_countWaysOn_63 ?_
    obtain ⟨g10, hf⟩ := og_in hf
    refine r_iast hC dC_43 g10 dX5_countWaysOn_64 ?_
    refine r_tops (fun u11 eu11 => ?_)
    have hf := olet_at eu11 hf
    refine r_iinc (v := 1) (lv' := [(2, .int (v2 + 1)), (0, .ref (G.1 0)), (1, .int v1)]) hC dX5_countWaysOn_65 2 rfl (by decide) (by decide) rfl ?_
    refine r_goto (tgt := 36) hC dX5_countWaysOn_68 (by decide) ?_
    refine r_loc [1, 2, 0] rfl ?_
    exact hrec u11 (v2 + 1) o hf hk
set_option maxHeartbeats 4000000 in
set_option maxRecDepth 100000 in
theorem t_X5_countWaysOn_L36 {l : Launch} {G : zG} {X : zX} {K : Option Value → zS → Prop} (hC : zC G X cX5_countWaysOn 3 RX5 none) {N : Nat} {v1 : Int32} : ∀ (n : Nat) (u : zS) (v2 : Int32) (o : zS), f_X5_countWaysOn_L36 N v1 n u v2 = some o → zW dscC l rm_X5_countWaysOn G X K o 71 [(0, .ref (G.1 0)), (1, .int v1)] [] → zW dscC l rm_X5_countWaysOn G X K u 36 [(0, .ref (G.1 0)), (1, .int v1), (2, .int v2)] [] := by
  intro n
  induction n with
  | zero => intro u v2 o hf; cases hf
  | succ n ih => intro u v2 o hf hk; exact t_X5_countWaysOn_L36_B hC (rec := f_X5_countWaysOn_L36 N v1 n) ih u v2 o hf hk
set_option maxHeartbeats 4000000 in
set_option maxRecDepth 100000 in
theorem t_X5_countWaysOn_L23_B {l : Launch} {G : zG} {X : zX} {K : Option Value → zS → Prop} (hC : zC G X cX5_countWaysOn 3 RX5 none) {N : Nat} {rec : zS → Int32 → Option (zS)} (hrec : ∀ (u : zS) (v1 : Int32) (o : zS), rec u v1 = some o → zW dscC l rm_X5_countWaysOn G X K o 77 [(0, .ref (G.1 0))] [] → zW dscC l rm_X5_countWaysOn G X K u 23 [(0, .ref (G.1 0)), (1, .int v1)] []) : ∀ (u : zS) (v1 : Int32) (o : zS), f_X5_countWaysOn_L23_B N rec u v1 = some o → zW dscC l rm_X5_countWaysOn G X K o 77 [(0, .ref (G.1 0))] [] → zW dscC l rm_X5_countWaysOn G X K u 23 [(0, .ref (G.1 0)), (1, .int v1)] [] := by
  intro u v1 o hf hk
  unfold f_X5_countWaysOn_L23_B at hf
  refine r_iload_n hC dX5_countWaysOn_23 1 rfl ?_
  refine r_aload_n hC dX5_countWaysOn_24 0 rfl ?_
  refine r_getr hC fd_RX5_10 dC_0 rfl dX5_countWaysOn_25 ?_
  refine r_geti hC fd_RX5_87 dC_1 rfl dX5_countWaysOn_28 ?_
  refine r_icmp_ge (tgt := 77) hC dX5_countWaysOn_31 (by decide) (fun c5 => ?_) (fun c5 => ?_)
  · have hf := ite_t c5 hf
    have hf := Option.some.inj hf
    subst hf
    refine r_loc [0] rfl ?_
    exact hk
  · have hf := ite_f c5 hf
    refine r_iconst (v := 0) hC dX5_countWaysOn_34 (by decide) ?_
    refine r_istore_n (lv' := [(2, .int 0), (0, .ref (G.1 0)), (1, .int v1)]) hC dX5_countWaysOn_35 rfl (by decide) rfl ?_
    refine r_loc [1, 2, 0] rfl ?_
    obtain ⟨q12, eq12, hf⟩ := ob_some hf
    refine t_X5_countWaysOn_L36 hC N u 0 q12 eq12 ?_
    refine r_iinc (v := 1) (lv' := [(1, .int (v1 + 1)), (0, .ref (G.1 0))]) hC dX5_countWaysOn_71 1 rfl (by decide) (by decide) rfl ?_
    refine r_goto (tgt := 23) hC dX5_countWaysOn_74 (by decide) ?_
    refine r_loc [1, 0] rfl ?_
    exact hrec q12 (v1 + 1) o hf hk
set_option maxHeartbeats 4000000 in
set_option maxRecDepth 100000 in
theorem t_X5_countWaysOn_L23 {l : Launch} {G : zG} {X : zX} {K : Option Value → zS → Prop} (hC : zC G X cX5_countWaysOn 3 RX5 none) {N : Nat} : ∀ (n : Nat) (u : zS) (v1 : Int32) (o : zS), f_X5_countWaysOn_L23 N n u v1 = some o → zW dscC l rm_X5_countWaysOn G X K o 77 [(0, .ref (G.1 0))] [] → zW dscC l rm_X5_countWaysOn G X K u 23 [(0, .ref (G.1 0)), (1, .int v1)] [] := by
  intro n
  induction n with
  | zero => intro u v1 o hf; cases hf
  | succ n ih => intro u v1 o hf hk; exact t_X5_countWaysOn_L23_B hC (rec := f_X5_countWaysOn_L23 N n) ih u v1 o hf hk
set_option maxHeartbeats 4000000 in
set_option maxRecDepth 100000 in
theorem t_X5_countWaysOn_L79_B {l : Launch} {G : zG} {X : zX} {K : Option Value → zS → Prop} (hC : zC G X cX5_countWaysOn 3 RX5 none) {N : Nat} {rec : zS → Int32 → Option (zS)} (hrec : ∀ (u : zS) (v1 : Int32) (o : zS), rec u v1 = some o → zW dscC l rm_X5_countWaysOn G X K o 103 [] [] → zW dscC l rm_X5_countWaysOn G X K u 79 [(0, .ref (G.1 0)), (1, .int v1)] []) : ∀ (u : zS) (v1 : Int32) (o : zS), f_X5_countWaysOn_L79_B N rec u v1 = some o → zW dscC l rm_X5_countWaysOn G X K o 103 [] [] → zW dscC l rm_X5_countWaysOn G X K u 79 [(0, .ref (G.1 0)), (1, .int v1)] [] := by
  intro u v1 o hf hk
  unfold f_X5_countWaysOn_L79_B at hf
  refine r_iload_n hC dX5_countWaysOn_79 1 rfl ?_
  refine r_bipush (v := 8) hC dX5_countWaysOn_80 (by decide) ?_
  refine r_icmp_ge (tgt := 103) hC dX5_countWaysOn_82 (by decide) (fun c14 => ?_) (fun c14 => ?_)
  · have hf := ite_t c14 hf
    have hf := Option.some.inj hf
    subst hf
    refine r_loc [] rfl ?_
    exact hk
  · have hf := ite_f c14 hf
    refine r_aload_n hC dX5_countWaysOn_85 0 rfl ?_
    refine r_getr hC fd_RX5_43 dC_0 rfl dX5_countWaysOn_86 ?_
    refine r_iload_n hC dX5_countWaysOn_89 1 rfl ?_
    refine r_aload_n hC dX5_countWaysOn_90 0 rfl ?_
    refine r_getr hC fd_RX5_47 dC_0 rfl dX5_countWaysOn_91 ?_
    refine r_iload_n hC dX5_countWaysOn_94 1 rfl ?_
    obtain ⟨g15, hf⟩ := og_in hf
    refine r_iald hC dC_43 g15 dX5_countWaysOn_95 ?_
    obtain ⟨g16, hf⟩ := og_in hf
    refine r_iast hC dC_42 g16 dX5_countWaysOn_96 ?_
    refine r_tops (fun u17 eu17 => ?_)
    have hf := olet_at eu17 hf
    refine r_iinc (v := 1) (lv' := [(1, .int (v1 + 1)), (0, .ref (G.1 0))]) hC dX5_countWaysOn_97 1 rfl (by decide) (by decide) rfl ?_
    refine r_goto (tgt := 79) hC dX5_countWaysOn_100 (by decide) ?_
    refine r_loc [1, 0] rfl ?_
    exact hrec u17 (v1 + 1) o hf hk
set_option maxHeartbeats 4000000 in
set_option maxRecDepth 100000 in
theorem t_X5_countWaysOn_L79 {l : Launch} {G : zG} {X : zX} {K : Option Value → zS → Prop} (hC : zC G X cX5_countWaysOn 3 RX5 none) {N : Nat} : ∀ (n : Nat) (u : zS) (v1 : Int32) (o : zS), f_X5_countWaysOn_L79 N n u v1 = some o → zW dscC l rm_X5_countWaysOn G X K o 103 [] [] → zW dscC l rm_X5_countWaysOn G X K u 79 [(0, .ref (G.1 0)), (1, .int v1)] [] := by
  intro n
  induction n with
  | zero => intro u v1 o hf; cases hf
  | succ n ih => intro u v1 o hf hk; exact t_X5_countWaysOn_L79_B hC (rec := f_X5_countWaysOn_L79 N n) ih u v1 o hf hk
set_option maxHeartbeats 4000000 in
set_option maxRecDepth 100000 in
theorem t_X5_countWaysOn {l : Launch} {G : zG} {X : zX} {K : Option Value → zS → Prop} (hC : zC G X cX5_countWaysOn 3 RX5 none) {N : Nat} {u : zS} (o : zS) (hf : f_X5_countWaysOn N u = some o) (hk : K none o) : zW dscC l rm_X5_countWaysOn G X K u 0 [(0, .ref (G.1 0))] [] := by
  unfold f_X5_countWaysOn at hf
  refine r_iconst (v := 0) hC dX5_countWaysOn_0 (by decide) ?_
  refine r_istore_n (lv' := [(1, .int 0), (0, .ref (G.1 0))]) hC dX5_countWaysOn_1 rfl (by decide) rfl ?_
  refine r_loc [1, 0] rfl ?_
  obtain ⟨q4, eq4, hf⟩ := ob_some hf
  refine t_X5_countWaysOn_L2 hC N u 0 q4 eq4 ?_
  refine r_iconst (v := 0) hC dX5_countWaysOn_21 (by decide) ?_
  refine r_istore_n (lv' := [(1, .int 0), (0, .ref (G.1 0))]) hC dX5_countWaysOn_22 rfl (by decide) rfl ?_
  refine r_loc [1, 0] rfl ?_
  obtain ⟨q13, eq13, hf⟩ := ob_some hf
  refine t_X5_countWaysOn_L23 hC N q4 0 q13 eq13 ?_
  refine r_iconst (v := 0) hC dX5_countWaysOn_77 (by decide) ?_
  refine r_istore_n (lv' := [(1, .int 0), (0, .ref (G.1 0))]) hC dX5_countWaysOn_78 rfl (by decide) rfl ?_
  refine r_loc [1, 0] rfl ?_
  obtain ⟨q18, eq18, hf⟩ := ob_some hf
  refine t_X5_countWaysOn_L79 hC N q13 0 q18 eq18 ?_
  have hf := Option.some.inj hf
  subst hf
  exact r_vret hC dX5_countWaysOn_103 hk
set_option maxHeartbeats 4000000 in
set_option maxRecDepth 100000 in
theorem c_X5_countWaysOn {l : Launch} {G : zG} {N : Nat} {u : zS} {r : zS} (hf : f_X5_countWaysOn N u = some r) : zM l dscC yX5_countWaysOn cX5_countWaysOn 3 none rm_X5_countWaysOn G [.ref (G.1 0)] u none r := zM.of (by decide) (Nat.le_of_ble_eq_true rfl) (fun X hC => t_X5_countWaysOn hC r hf ⟨rfl, rfl⟩)
set_option maxHeartbeats 4000000 in
set_option maxRecDepth 100000 in
theorem t_X5_countWays_L2_B {l : Launch} {G : zG} {X : zX} {K : Option Value → zS → Prop} (hC : zC G X cX5_countWays 4 RX5 none) {N : Nat} {v1 : Int32} {v2 : Int32} {rec : zS → Int32 → Option (zS)} (hrec : ∀ (u : zS) (v3 : Int32) (o : zS), rec u v3 = some o → zW dscC l rm_X5_countWays G X K o 30 [(0, .ref (G.1 0)), (2, .int v2)] [] → zW dscC l rm_X5_countWays G X K u 2 [(0, .ref (G.1 0)), (1, .int v1), (2, .int v2), (3, .int v3)] []) : ∀ (u : zS) (v3 : Int32) (o : zS), f_X5_countWays_L2_B N v1 v2 rec u v3 = some o → zW dscC l rm_X5_countWays G X K o 30 [(0, .ref (G.1 0)), (2, .int v2)] [] → zW dscC l rm_X5_countWays G X K u 2 [(0, .ref (G.1 0)), (1, .int v1), (2, .int v2), (3, .int v3)] [] := by
  intro u v3 o hf hk
  unfold f_X5_countWays_L2_B at hf
  refine r_iload_n hC dX5_countWays_2 3 rfl ?_
  refine r_bipush (v := 8) hC dX5_countWays_3 (by decide) ?_
  refine r_icmp_ge (tgt := 30) hC dX5_countWays_5 (by decide) (fun c1 => ?_) (fun c1 => ?_)
  · have hf := ite_t c1 hf
    have hf := Option.some.inj hf
    subst hf
    refine r_loc [0, 2] rfl ?_
    exact hk
  · have hf := ite_f c1 hf
    refine r_aload_n hC dX5_countWays_8 0 rfl ?_
    refine r_getr hC fd_RX5_43 dC_0 rfl dX5_countWays_9 ?_
    refine r_iload_n hC dX5_countWays_12 3 rfl ?_
    refine r_iload_n hC dX5_countWays_13 3 rfl ?_
    refine r_iload_n hC dX5_countWays_14 1 rfl ?_
    refine r_icmp_ne (tgt := 22) hC dX5_countWays_15 (by decide) (fun c2 => ?_) (fun c2 => ?_)
    · have hf := ite_f c2 hf
      refine r_iconst (v := 0) hC dX5_countWays_22 (by decide) ?_
      obtain ⟨g3, hf⟩ := og_in hf
      refine r_iast hC dC_42 g3 dX5_countWays_23 ?_
      refine r_tops (fun u4 eu4 => ?_)
      have hf := olet_at eu4 hf
      refine r_iinc (v := 1) (lv' := [(3, .int (v3 + 1)), (0, .ref (G.1 0)), (1, .int v1), (2, .int v2)]) hC dX5_countWays_24 3 rfl (by decide) (by decide) rfl ?_
      refine r_goto (tgt := 2) hC dX5_countWays_27 (by decide) ?_
      refine r_loc [1, 2, 3, 0] rfl ?_
      exact hrec u4 (v3 + 1) o hf hk
    · have hf := ite_t c2 hf
      refine r_iconst (v := 1) hC dX5_countWays_18 (by decide) ?_
      refine r_goto (tgt := 23) hC dX5_countWays_19 (by decide) ?_
      obtain ⟨g5, hf⟩ := og_in hf
      refine r_iast hC dC_42 g5 dX5_countWays_23 ?_
      refine r_tops (fun u6 eu6 => ?_)
      have hf := olet_at eu6 hf
      refine r_iinc (v := 1) (lv' := [(3, .int (v3 + 1)), (0, .ref (G.1 0)), (1, .int v1), (2, .int v2)]) hC dX5_countWays_24 3 rfl (by decide) (by decide) rfl ?_
      refine r_goto (tgt := 2) hC dX5_countWays_27 (by decide) ?_
      refine r_loc [1, 2, 3, 0] rfl ?_
      exact hrec u6 (v3 + 1) o hf hk
set_option maxHeartbeats 4000000 in
set_option maxRecDepth 100000 in
theorem t_X5_countWays_L2 {l : Launch} {G : zG} {X : zX} {K : Option Value → zS → Prop} (hC : zC G X cX5_countWays 4 RX5 none) {N : Nat} {v1 : Int32} {v2 : Int32} : ∀ (n : Nat) (u : zS) (v3 : Int32) (o : zS), f_X5_countWays_L2 N v1 v2 n u v3 = some o → zW dscC l rm_X5_countWays G X K o 30 [(0, .ref (G.1 0)), (2, .int v2)] [] → zW dscC l rm_X5_countWays G X K u 2 [(0, .ref (G.1 0)), (1, .int v1), (2, .int v2), (3, .int v3)] [] := by
  intro n
  induction n with
  | zero => intro u v3 o hf; cases hf
  | succ n ih => intro u v3 o hf hk; exact t_X5_countWays_L2_B hC (rec := f_X5_countWays_L2 N v1 v2 n) ih u v3 o hf hk
set_option maxHeartbeats 4000000 in
set_option maxRecDepth 100000 in
theorem t_X5_countWays_L32_B {l : Launch} {G : zG} {X : zX} {K : Option Value → zS → Prop} (hC : zC G X cX5_countWays 4 RX5 none) {N : Nat} {v2 : Int32} {rec : zS → Int32 → Option (zS)} (hrec : ∀ (u : zS) (v3 : Int32) (o : zS), rec u v3 = some o → zW dscC l rm_X5_countWays G X K o 47 [] [] → zW dscC l rm_X5_countWays G X K u 32 [(0, .ref (G.1 0)), (2, .int v2), (3, .int v3)] []) : ∀ (u : zS) (v3 : Int32) (o : zS), f_X5_countWays_L32_B N v2 rec u v3 = some o → zW dscC l rm_X5_countWays G X K o 47 [] [] → zW dscC l rm_X5_countWays G X K u 32 [(0, .ref (G.1 0)), (2, .int v2), (3, .int v3)] [] := by
  intro u v3 o hf hk
  unfold f_X5_countWays_L32_B at hf
  refine r_iload_n hC dX5_countWays_32 2 rfl ?_
  refine r_iload_n hC dX5_countWays_33 1 rfl ?_
  refine r_icmp_ge (tgt := 47) hC dX5_countWays_34 (by decide) (fun c8 => ?_) (fun c8 => ?_)
  · have hf := ite_t c8 hf
    have hf := Option.some.inj hf
    subst hf
    refine r_loc [] rfl ?_
    exact hk
  · have hf := ite_f c8 hf
    refine r_aload_n hC dX5_countWays_37 0 rfl ?_
    obtain ⟨r9, er9, hf⟩ := ob_some hf
    refine r_cvv (As := []) (rest := []) hC (c_X5_countWaysOn er9) yv_X5_countWaysOn ml_RX5_284 dC_0 ⟨by decide, by decide, rfl, rfl⟩ rfl rfl (Nat.le_of_ble_eq_true rfl) dX5_countWays_38 ?_
    refine r_iinc (v := 1) (lv' := [(3, .int (v3 + 1)), (0, .ref (G.1 0)), (2, .int v2)]) hC dX5_countWays_41 2 rfl (by decide) (by decide) rfl ?_
    refine r_goto (tgt := 32) hC dX5_countWays_44 (by decide) ?_
    refine r_loc [1, 2, 0] rfl ?_
    exact hrec r9 (v3 + 1) o hf hk
set_option maxHeartbeats 4000000 in
set_option maxRecDepth 100000 in
theorem t_X5_countWays_L32 {l : Launch} {G : zG} {X : zX} {K : Option Value → zS → Prop} (hC : zC G X cX5_countWays 4 RX5 none) {N : Nat} {v2 : Int32} : ∀ (n : Nat) (u : zS) (v3 : Int32) (o : zS), f_X5_countWays_L32 N v2 n u v3 = some o → zW dscC l rm_X5_countWays G X K o 47 [] [] → zW dscC l rm_X5_countWays G X K u 32 [(0, .ref (G.1 0)), (2, .int v2), (3, .int v3)] [] := by
  intro n
  induction n with
  | zero => intro u v3 o hf; cases hf
  | succ n ih => intro u v3 o hf hk; exact t_X5_countWays_L32_B hC (rec := f_X5_countWays_L32 N v2 n) ih u v3 o hf hk
set_option maxHeartbeats 4000000 in
set_option maxRecDepth 100000 in
theorem t_X5_countWays {l : Launch} {G : zG} {X : zX} {K : Option Value → zS → Prop} (hC : zC G X cX5_countWays 4 RX5 none) {N : Nat} {u : zS} {v1 : Int32} {v2 : Int32} (o : zS) (hf : f_X5_countWays N u v1 v2 = some o) (hk : K none o) : zW dscC l rm_X5_countWays G X K u 0 [(0, .ref (G.1 0)), (1, .int v1), (2, .int v2)] [] := by
  unfold f_X5_countWays at hf
  refine r_iconst (v := 0) hC dX5_countWays_0 (by decide) ?_
  refine r_istore_n (lv' := [(3, .int 0), (0, .ref (G.1 0)), (1, .int v1), (2, .int v2)]) hC dX5_countWays_1 rfl (by decide) rfl ?_
  refine r_loc [1, 2, 3, 0] rfl ?_
  obtain ⟨q7, eq7, hf⟩ := ob_some hf
  refine t_X5_countWays_L2 hC N u 0 q7 eq7 ?_
  refine r_iconst (v := 0) hC dX5_countWays_30 (by decide) ?_
  refine r_istore_n (lv' := [(3, .int 0), (0, .ref (G.1 0)), (2, .int v2)]) hC dX5_countWays_31 rfl (by decide) rfl ?_
  refine r_loc [1, 2, 0] rfl ?_
  obtain ⟨q10, eq10, hf⟩ := ob_some hf
  refine t_X5_countWays_L32 hC N q7 0 q10 eq10 ?_
  have hf := Option.some.inj hf
  subst hf
  exact r_vret hC dX5_countWays_47 hk
set_option maxHeartbeats 4000000 in
set_option maxRecDepth 100000 in
theorem c_X5_countWays {l : Launch} {G : zG} {N : Nat} {u : zS} {v1 : Int32} {v2 : Int32} {r : zS} (hf : f_X5_countWays N u v1 v2 = some r) : zM l dscC yX5_countWays cX5_countWays 4 none rm_X5_countWays G [.ref (G.1 0), .int v1, .int v2] u none r := zM.of (by decide) (Nat.le_of_ble_eq_true rfl) (fun X hC => t_X5_countWays hC r hf ⟨rfl, rfl⟩)
set_option maxHeartbeats 4000000 in
set_option maxRecDepth 100000 in
theorem t_X5_chance_L87_B {l : Launch} {G : zG} {X : zX} {K : Option Value → zS → Prop} (hC : zC G X cX5_chance 7 RX5 (some .int)) {N : Nat} {u : zS} {v2 : Int32} {v3 : Int32} {v4 : Int32} {rec : Int32 → Int32 → Option (Int32)} (hrec : ∀ (v5 : Int32) (v6 : Int32) (o : Int32), rec v5 v6 = some o → zW dscC l rm_X5_chance G X K u 111 [(0, .ref (G.1 0)), (2, .int v2), (4, .int v4), (5, .int o)] [] → zW dscC l rm_X5_chance G X K u 87 [(0, .ref (G.1 0)), (2, .int v2), (3, .int v3), (4, .int v4), (5, .int v5), (6, .int v6)] []) : ∀ (v5 : Int32) (v6 : Int32) (o : Int32), f_X5_chance_L87_B N u v2 v3 v4 rec v5 v6 = some o → zW dscC l rm_X5_chance G X K u 111 [(0, .ref (G.1 0)), (2, .int v2), (4, .int v4), (5, .int o)] [] → zW dscC l rm_X5_chance G X K u 87 [(0, .ref (G.1 0)), (2, .int v2), (3, .int v3), (4, .int v4), (5, .int v5), (6, .int v6)] [] := by
  intro v5 v6 o hf hk
  unfold f_X5_chance_L87_B at hf
  refine r_iload hC dX5_chance_87 5 rfl ?_
  refine r_iload_n hC dX5_chance_89 2 rfl ?_
  refine r_icmp_ge (tgt := 111) hC dX5_chance_90 (by decide) (fun c10 => ?_) (fun c10 => ?_)
  · have hf := ite_t c10 hf
    have hf := Option.some.inj hf
    subst hf
    refine r_loc [0, 1, 3, 4] rfl ?_
    exact hk
  · have hf := ite_f c10 hf
    refine r_iload hC dX5_chance_93 4 rfl ?_
    refine r_aload_n hC dX5_chance_95 0 rfl ?_
    refine r_getr hC fd_RX5_10 dC_0 rfl dX5_chance_96 ?_
    refine r_geti hC fd_RX5_87 dC_1 rfl dX5_chance_99 ?_
    refine r_imul hC dX5_chance_102 ?_
    refine r_topi (fun w11 ew11 => ?_)
    have hf := olet_at ew11 hf
    refine r_istore (lv' := [(5, .int w11), (0, .ref (G.1 0)), (2, .int v2), (3, .int v3), (4, .int v4), (6, .int v6)]) hC dX5_chance_103 (by decide) rfl ?_
    refine r_iinc (v := 1) (lv' := [(6, .int (v6 + 1)), (5, .int w11), (0, .ref (G.1 0)), (2, .int v2), (3, .int v3), (4, .int v4)]) hC dX5_chance_105 5 rfl (by decide) (by decide) rfl ?_
    refine r_goto (tgt := 87) hC dX5_chance_108 (by decide) ?_
    refine r_loc [2, 3, 4, 5, 1, 0] rfl ?_
    exact hrec w11 (v6 + 1) o hf hk
set_option maxHeartbeats 4000000 in
set_option maxRecDepth 100000 in
theorem t_X5_chance_L87 {l : Launch} {G : zG} {X : zX} {K : Option Value → zS → Prop} (hC : zC G X cX5_chance 7 RX5 (some .int)) {N : Nat} {u : zS} {v2 : Int32} {v3 : Int32} {v4 : Int32} : ∀ (n : Nat) (v5 : Int32) (v6 : Int32) (o : Int32), f_X5_chance_L87 N u v2 v3 v4 n v5 v6 = some o → zW dscC l rm_X5_chance G X K u 111 [(0, .ref (G.1 0)), (2, .int v2), (4, .int v4), (5, .int o)] [] → zW dscC l rm_X5_chance G X K u 87 [(0, .ref (G.1 0)), (2, .int v2), (3, .int v3), (4, .int v4), (5, .int v5), (6, .int v6)] [] := by
  intro n
  induction n with
  | zero => intro v5 v6 o hf; cases hf
  | succ n ih => intro v5 v6 o hf hk; exact t_X5_chance_L87_B hC (rec := f_X5_chance_L87 N u v2 v3 v4 n) ih v5 v6 o hf hk
set_option maxHeartbeats 4000000 in
set_option maxRecDepth 100000 in
theorem t_X5_chance {l : Launch} {G : zG} {X : zX} {K : Option Value → zS → Prop} (hC : zC G X cX5_chance 7 RX5 (some .int)) {N : Nat} {u : zS} {v1 : Int32} {v2 : Int32} {v3 : Int32} {v4 : Int32} (o : Int32 × zS) (hf : f_X5_chance N u v1 v2 v3 v4 = some o) (hk : K (some (.int o.1)) o.2) : zW dscC l rm_X5_chance G X K u 0 [(0, .ref (G.1 0)), (1, .int v1), (2, .int v2), (3, .int v3), (4, .int v4)] [] := by
  unfold f_X5_chance at hf
  refine r_aload_n hC dX5_chance_0 0 rfl ?_
  refine r_getr hC fd_RX5_10 dC_0 rfl dX5_chance_1 ?_
  refine r_iload_n hC dX5_chance_4 1 rfl ?_
  refine r_cvi (As := [.int v1]) (rest := []) hC (c_X1_hasAngel isR_1) yv_X1_hasAngel ml_RX5_121 dC_1 ⟨by decide, by decide, rfl, rfl⟩ rfl rfl (Nat.le_of_ble_eq_true rfl) dX5_chance_5 ?_
  refine r_if_eq (tgt := 38) hC dX5_chance_8 (by decide) (fun c1 => ?_) (fun c1 => ?_)
  · have hf := ite_t c1 hf
    refine r_iconst (v := (-1)) hC dX5_chance_38 (by decide) ?_
    have hf := Option.some.inj hf
    subst hf
    exact r_iret hC dX5_chance_39 hk
  · have hf := ite_f c1 hf
    refine r_iload_n hC dX5_chance_11 2 rfl ?_
    refine r_csi (As := [.int v2]) (rest := []) hC c_X5_isPlace ys_X5_isPlace ml_RX5_54 ⟨by decide, by decide, rfl, rfl⟩ rfl rfl (Nat.le_of_ble_eq_true rfl) dX5_chance_12 ?_
    refine r_if_eq (tgt := 38) hC dX5_chance_15 (by decide) (fun c2 => ?_) (fun c2 => ?_)
    · have hf := ite_t c2 hf
      refine r_iconst (v := (-1)) hC dX5_chance_38 (by decide) ?_
      have hf := Option.some.inj hf
      subst hf
      exact r_iret hC dX5_chance_39 hk
    · have hf := ite_f c2 hf
      refine r_iload_n hC dX5_chance_18 3 rfl ?_
      refine r_iconst (v := 0) hC dX5_chance_19 (by decide) ?_
      refine r_bipush (v := 8) hC dX5_chance_20 (by decide) ?_
      refine r_csi (As := [.int v3, .int 0, .int 8]) (rest := []) hC c_X5_within ys_X5_within ml_RX5_83 ⟨by decide, by decide, rfl, rfl⟩ rfl rfl (Nat.le_of_ble_eq_true rfl) dX5_chance_22 ?_
      refine r_if_eq (tgt := 38) hC dX5_chance_25 (by decide) (fun c3 => ?_) (fun c3 => ?_)
      · have hf := ite_t c3 hf
        refine r_iconst (v := (-1)) hC dX5_chance_38 (by decide) ?_
        have hf := Option.some.inj hf
        subst hf
        exact r_iret hC dX5_chance_39 hk
      · have hf := ite_f c3 hf
        refine r_iload hC dX5_chance_28 4 rfl ?_
        refine r_iconst (v := 0) hC dX5_chance_30 (by decide) ?_
        refine r_iconst (v := 1) hC dX5_chance_31 (by decide) ?_
        refine r_csi (As := [.int v4, .int 0, .int 1]) (rest := []) hC c_X5_within ys_X5_within ml_RX5_83 ⟨by decide, by decide, rfl, rfl⟩ rfl rfl (Nat.le_of_ble_eq_true rfl) dX5_chance_32 ?_
        refine r_if_ne (tgt := 40) hC dX5_chance_35 (by decide) (fun c4 => ?_) (fun c4 => ?_)
        · have hf := ite_f c4 hf
          refine r_aload_n hC dX5_chance_40 0 rfl ?_
          refine r_getr hC fd_RX5_10 dC_0 rfl dX5_chance_41 ?_
          refine r_getr hC fd_RX5_124 dC_1 rfl dX5_chance_44 ?_
          refine r_iload_n hC dX5_chance_47 1 rfl ?_
          obtain ⟨g5, hf⟩ := og_in hf
          refine r_iald hC dC_2 g5 dX5_chance_48 ?_
          refine r_bipush (v := (-4)) hC dX5_chance_49 (by decide) ?_
          refine r_icmp_eq (tgt := 64) hC dX5_chance_51 (by decide) (fun c6 => ?_) (fun c6 => ?_)
          · have hf := ite_t c6 hf
            refine r_bipush (v := (-2)) hC dX5_chance_64 (by decide) ?_
            have hf := Option.some.inj hf
            subst hf
            exact r_iret hC dX5_chance_66 hk
          · have hf := ite_f c6 hf
            refine r_aload_n hC dX5_chance_54 0 rfl ?_
            refine r_getr hC fd_RX5_10 dC_0 rfl dX5_chance_55 ?_
            refine r_geti hC fd_RX5_87 dC_1 rfl dX5_chance_58 ?_
            refine r_if_gt (tgt := 67) hC dX5_chance_61 (by decide) (fun c7 => ?_) (fun c7 => ?_)
            · have hf := ite_t c7 hf
              refine r_aload_n hC dX5_chance_67 0 rfl ?_
              refine r_aload_n hC dX5_chance_68 0 rfl ?_
              refine r_getr hC fd_RX5_10 dC_0 rfl dX5_chance_69 ?_
              refine r_getr hC fd_RX5_124 dC_1 rfl dX5_chance_72 ?_
              refine r_iload_n hC dX5_chance_75 1 rfl ?_
              obtain ⟨g8, hf⟩ := og_in hf
              refine r_iald hC dC_2 g8 dX5_chance_76 ?_
              refine r_iload_n hC dX5_chance_77 3 rfl ?_
              obtain ⟨r9, er9, hf⟩ := ob_some hf
              refine r_cvv (As := [.int (u.1 2 (Int32.toNatClampNeg v1)), .int v3]) (rest := []) hC (c_X5_countWays er9) yv_X5_countWays ml_RX5_225 dC_0 ⟨by decide, by decide, rfl, rfl⟩ rfl rfl (Nat.le_of_ble_eq_true rfl) dX5_chance_78 ?_
              refine r_iconst (v := 1) hC dX5_chance_81 (by decide) ?_
              refine r_istore (lv' := [(5, .int 1), (0, .ref (G.1 0)), (1, .int v1), (2, .int v2), (3, .int v3), (4, .int v4)]) hC dX5_chance_82 (by decide) rfl ?_
              refine r_iconst (v := 0) hC dX5_chance_84 (by decide) ?_
              refine r_istore (lv' := [(6, .int 0), (5, .int 1), (0, .ref (G.1 0)), (1, .int v1), (2, .int v2), (3, .int v3), (4, .int v4)]) hC dX5_chance_85 (by decide) rfl ?_
              refine r_loc [2, 4, 5, 6, 1, 0] rfl ?_
              obtain ⟨q12, eq12, hf⟩ := ob_some hf
              refine t_X5_chance_L87 hC N 1 0 q12 eq12 ?_
              refine r_aload_n hC dX5_chance_111 0 rfl ?_
              refine r_getr hC fd_RX5_43 dC_0 rfl dX5_chance_112 ?_
              refine r_iload_n hC dX5_chance_115 1 rfl ?_
              obtain ⟨g13, hf⟩ := og_in hf
              refine r_iald hC dC_42 g13 dX5_chance_116 ?_
              refine r_iload hC dX5_chance_117 3 rfl ?_
              obtain ⟨r14, er14, hf⟩ := ob_some hf
              refine r_csi (As := [.int (r9.1 42 (Int32.toNatClampNeg v2)), .int q12]) (rest := []) hC (c_X5_greatestCommon er14) ys_X5_greatestCommon ml_RX5_229 ⟨by decide, by decide, rfl, rfl⟩ rfl rfl (Nat.le_of_ble_eq_true rfl) dX5_chance_119 ?_
              refine r_istore (lv' := [(6, .int r14), (0, .ref (G.1 0)), (2, .int v2), (4, .int v4), (5, .int q12)]) hC dX5_chance_122 (by decide) rfl ?_
              refine r_iload hC dX5_chance_124 0 rfl ?_
              refine r_if_gt (tgt := 132) hC dX5_chance_126 (by decide) (fun c15 => ?_) (fun c15 => ?_)
              · have hf := ite_t c15 hf
                refine r_iload hC dX5_chance_132 3 rfl ?_
                refine r_if_ne (tgt := 146) hC dX5_chance_134 (by decide) (fun c16 => ?_) (fun c16 => ?_)
                · have hf := ite_f c16 hf
                  refine r_iload hC dX5_chance_146 4 rfl ?_
                  refine r_iload hC dX5_chance_148 0 rfl ?_
                  obtain ⟨g17, hf⟩ := og_ne hf
                  refine r_idiv (x := q12) (y := r14) hC dX5_chance_150 g17 ?_
                  have hf := Option.some.inj hf
                  subst hf
                  exact r_iret hC dX5_chance_151 hk
                · have hf := ite_t c16 hf
                  refine r_aload_n hC dX5_chance_137 1 rfl ?_
                  refine r_getr hC fd_RX5_43 dC_0 rfl dX5_chance_138 ?_
                  refine r_iload_n hC dX5_chance_141 2 rfl ?_
                  obtain ⟨g18, hf⟩ := og_in hf
                  refine r_iald hC dC_42 g18 dX5_chance_142 ?_
                  refine r_goto (tgt := 148) hC dX5_chance_143 (by decide) ?_
                  refine r_iload hC dX5_chance_148 0 rfl ?_
                  obtain ⟨g19, hf⟩ := og_ne hf
                  refine r_idiv (x := (r9.1 42 (Int32.toNatClampNeg v2))) (y := r14) hC dX5_chance_150 g19 ?_
                  have hf := Option.some.inj hf
                  subst hf
                  exact r_iret hC dX5_chance_151 hk
              · have hf := ite_f c15 hf
                refine r_bipush (v := (-4)) hC dX5_chance_129 (by decide) ?_
                have hf := Option.some.inj hf
                subst hf
                exact r_iret hC dX5_chance_131 hk
            · have hf := ite_f c7 hf
              refine r_bipush (v := (-2)) hC dX5_chance_64 (by decide) ?_
              have hf := Option.some.inj hf
              subst hf
              exact r_iret hC dX5_chance_66 hk
        · have hf := ite_t c4 hf
          refine r_iconst (v := (-1)) hC dX5_chance_38 (by decide) ?_
          have hf := Option.some.inj hf
          subst hf
          exact r_iret hC dX5_chance_39 hk
set_option maxHeartbeats 4000000 in
set_option maxRecDepth 100000 in
theorem c_X5_chance {l : Launch} {G : zG} {N : Nat} {u : zS} {v1 : Int32} {v2 : Int32} {v3 : Int32} {v4 : Int32} {r : Int32 × zS} (hf : f_X5_chance N u v1 v2 v3 v4 = some r) : zM l dscC yX5_chance cX5_chance 7 (some .int) rm_X5_chance G [.ref (G.1 0), .int v1, .int v2, .int v3, .int v4] u (some (.int r.1)) r.2 := zM.of (by decide) (Nat.le_of_ble_eq_true rfl) (fun X hC => t_X5_chance hC r hf ⟨rfl, rfl⟩)
set_option maxHeartbeats 4000000 in
set_option maxRecDepth 100000 in
theorem t_X5_image {l : Launch} {G : zG} {X : zX} {K : Option Value → zS → Prop} (hC : zC G X cX5_image 1 RX5 (some .int)) {u : zS} (o : Int32 × zS) (hf : f_X5_image u = o) (hk : K (some (.int o.1)) o.2) : zW dscC l rm_X5_image G X K u 0 [(0, .ref (G.1 0))] [] := by
  unfold f_X5_image at hf
  refine r_aload_n hC dX5_image_0 0 rfl ?_
  refine r_getr hC fd_RX5_16 dC_0 rfl dX5_image_1 ?_
  refine r_aload_n hC dX5_image_4 0 rfl ?_
  refine r_getr hC fd_RX5_10 dC_0 rfl dX5_image_5 ?_
  obtain ⟨r1, er1⟩ : ∃ z, z = f_X1_becomeLike 11 1 u := ⟨_, rfl⟩
  have hf := olet_at er1 hf
  refine r_cvv (As := [.ref (G.1 1)]) (rest := []) hC (c_X1_becomeLike isR_11 isR_1 (r := r1) er1.symm) yv_X1_becomeLike ml_RX5_150 dC_11 ⟨by decide, by decide, rfl, rfl⟩ rfl rfl (Nat.le_of_ble_eq_true rfl) dX5_image_8 ?_
  refine r_aload_n hC dX5_image_11 0 rfl ?_
  refine r_iconst (v := 1) hC dX5_image_12 (by decide) ?_
  refine r_putz hC fp_RX5_50 rfl rfl dC_0 rfl dX5_image_13 ?_
  refine r_tops (fun u2 eu2 => ?_)
  have hf := olet_at eu2 hf
  refine r_iconst (v := 1) hC dX5_image_16 (by decide) ?_
  subst hf
  exact r_iret hC dX5_image_17 hk
set_option maxHeartbeats 4000000 in
set_option maxRecDepth 100000 in
theorem c_X5_image {l : Launch} {G : zG} {u : zS} {r : Int32 × zS} (hf : f_X5_image u = r) : zM l dscC yX5_image cX5_image 1 (some .int) rm_X5_image G [.ref (G.1 0)] u (some (.int r.1)) r.2 := zM.of (by decide) (Nat.le_of_ble_eq_true rfl) (fun X hC => t_X5_image hC r hf ⟨rfl, rfl⟩)
set_option maxHeartbeats 4000000 in
set_option maxRecDepth 100000 in
theorem t_X5_restore {l : Launch} {G : zG} {X : zX} {K : Option Value → zS → Prop} (hC : zC G X cX5_restore 1 RX5 (some .int)) {u : zS} (o : Int32 × zS) (hf : f_X5_restore u = o) (hk : K (some (.int o.1)) o.2) : zW dscC l rm_X5_restore G X K u 0 [(0, .ref (G.1 0))] [] := by
  unfold f_X5_restore at hf
  refine r_aload_n hC dX5_restore_0 0 rfl ?_
  refine r_geti hC fd_RX5_50 dC_0 rfl dX5_restore_1 ?_
  refine r_if_ne (tgt := 10) hC dX5_restore_4 (by decide) (fun c1 => ?_) (fun c1 => ?_)
  · have hf := ite_f c1 hf
    refine r_aload_n hC dX5_restore_10 0 rfl ?_
    refine r_getr hC fd_RX5_10 dC_0 rfl dX5_restore_11 ?_
    refine r_aload_n hC dX5_restore_14 0 rfl ?_
    refine r_getr hC fd_RX5_16 dC_0 rfl dX5_restore_15 ?_
    obtain ⟨r2, er2⟩ : ∃ z, z = f_X1_becomeLike 1 11 u := ⟨_, rfl⟩
    have hf := olet_at er2 hf
    refine r_cvv (As := [.ref (G.1 11)]) (rest := []) hC (c_X1_becomeLike isR_1 isR_11 (r := r2) er2.symm) yv_X1_becomeLike ml_RX5_150 dC_1 ⟨by decide, by decide, rfl, rfl⟩ rfl rfl (Nat.le_of_ble_eq_true rfl) dX5_restore_18 ?_
    refine r_iconst (v := 1) hC dX5_restore_21 (by decide) ?_
    subst hf
    exact r_iret hC dX5_restore_22 hk
  · have hf := ite_t c1 hf
    refine r_bipush (v := (-4)) hC dX5_restore_7 (by decide) ?_
    subst hf
    exact r_iret hC dX5_restore_9 hk
set_option maxHeartbeats 4000000 in
set_option maxRecDepth 100000 in
theorem c_X5_restore {l : Launch} {G : zG} {u : zS} {r : Int32 × zS} (hf : f_X5_restore u = r) : zM l dscC yX5_restore cX5_restore 1 (some .int) rm_X5_restore G [.ref (G.1 0)] u (some (.int r.1)) r.2 := zM.of (by decide) (Nat.le_of_ble_eq_true rfl) (fun X hC => t_X5_restore hC r hf ⟨rfl, rfl⟩)
set_option maxHeartbeats 4000000 in
set_option maxRecDepth 100000 in
theorem t_X5_isSheet {l : Launch} {G : zG} {X : zX} {K : Option Value → zS → Prop} (hC : zC G X cX5_isSheet 1 RX5 (some .boolean)) {u : zS} {v0 : Int32} (o : Int32) (hf : f_X5_isSheet v0 = o) (hk : K (some (.int o)) u) : zW dscC l rm_X5_isSheet G X K u 0 [(0, .int v0)] [] := by
  unfold f_X5_isSheet at hf
  refine r_iload_n hC dX5_isSheet_0 0 rfl ?_
  refine r_iconst (v := 0) hC dX5_isSheet_1 (by decide) ?_
  refine r_iconst (v := 3) hC dX5_isSheet_2 (by decide) ?_
  refine r_csi (As := [.int v0, .int 0, .int 3]) (rest := []) hC c_X5_within ys_X5_within ml_RX5_83 ⟨by decide, by decide, rfl, rfl⟩ rfl rfl (Nat.le_of_ble_eq_true rfl) dX5_isSheet_3 ?_
  subst hf
  exact r_zret hC (bz_X5_within v0 0 3) dX5_isSheet_6 hk
set_option maxHeartbeats 4000000 in
set_option maxRecDepth 100000 in
theorem c_X5_isSheet {l : Launch} {G : zG} {u : zS} {v0 : Int32} : zM l dscC yX5_isSheet cX5_isSheet 1 (some .boolean) rm_X5_isSheet G [.int v0] u (some (.int (f_X5_isSheet v0))) u := zM.of (by decide) (Nat.le_of_ble_eq_true rfl) (fun X hC => t_X5_isSheet hC _ rfl ⟨rfl, rfl⟩)
set_option maxHeartbeats 4000000 in
set_option maxRecDepth 100000 in
theorem bz_X5_isSheet (v0 : Int32) : narrow .boolean (.int (f_X5_isSheet v0)) = .int (f_X5_isSheet v0) := by unfold f_X5_isSheet; exact (bz_X5_within v0 0 3)
set_option maxHeartbeats 4000000 in
set_option maxRecDepth 100000 in
theorem t_X5_isLane {l : Launch} {G : zG} {X : zX} {K : Option Value → zS → Prop} (hC : zC G X cX5_isLane 1 RX5 (some .boolean)) {u : zS} {v0 : Int32} (o : Int32) (hf : f_X5_isLane v0 = o) (hk : K (some (.int o)) u) : zW dscC l rm_X5_isLane G X K u 0 [(0, .int v0)] [] := by
  unfold f_X5_isLane at hf
  refine r_iload_n hC dX5_isLane_0 0 rfl ?_
  refine r_iconst (v := 0) hC dX5_isLane_1 (by decide) ?_
  refine r_iconst (v := 3) hC dX5_isLane_2 (by decide) ?_
  refine r_csi (As := [.int v0, .int 0, .int 3]) (rest := []) hC c_X5_within ys_X5_within ml_RX5_83 ⟨by decide, by decide, rfl, rfl⟩ rfl rfl (Nat.le_of_ble_eq_true rfl) dX5_isLane_3 ?_
  subst hf
  exact r_zret hC (bz_X5_within v0 0 3) dX5_isLane_6 hk
set_option maxHeartbeats 4000000 in
set_option maxRecDepth 100000 in
theorem c_X5_isLane {l : Launch} {G : zG} {u : zS} {v0 : Int32} : zM l dscC yX5_isLane cX5_isLane 1 (some .boolean) rm_X5_isLane G [.int v0] u (some (.int (f_X5_isLane v0))) u := zM.of (by decide) (Nat.le_of_ble_eq_true rfl) (fun X hC => t_X5_isLane hC _ rfl ⟨rfl, rfl⟩)
set_option maxHeartbeats 4000000 in
set_option maxRecDepth 100000 in
theorem bz_X5_isLane (v0 : Int32) : narrow .boolean (.int (f_X5_isLane v0)) = .int (f_X5_isLane v0) := by unfold f_X5_isLane; exact (bz_X5_within v0 0 3)
set_option maxHeartbeats 4000000 in
set_option maxRecDepth 100000 in
theorem t_X5_isSeenAsTold_L3_B {l : Launch} {G : zG} {X : zX} {K : Option Value → zS → Prop} (hC : zC G X cX5_isSeenAsTold 7 RX5 (some .boolean)) {N : Nat} {u : zS} {v1 : Int32} {v2 : Int32} {v3 : Int32} {v4 : Int32} {v5 : Int32} {rec : Int32 → Option ((Int32) ⊕ (Unit))} (hrec : ∀ (v6 : Int32) (o : (Int32) ⊕ (Unit)), rec v6 = some o → ((∀ q, o = .inl q → K (some (.int q)) u) ∧ (∀ q, o = .inr q → zW dscC l rm_X5_isSeenAsTold G X K u 44 [] [])) → zW dscC l rm_X5_isSeenAsTold G X K u 3 [(0, .ref (G.1 0)), (1, .int v1), (2, .int v2), (3, .int v3), (4, .int v4), (5, .int v5), (6, .int v6)] []) : ∀ (v6 : Int32) (o : (Int32) ⊕ (Unit)), f_X5_isSeenAsTold_L3_B N u v1 v2 v3 v4 v5 rec v6 = some o → ((∀ q, o = .inl q → K (some (.int q)) u) ∧ (∀ q, o = .inr q → zW dscC l rm_X5_isSeenAsTold G X K u 44 [] [])) → zW dscC l rm_X5_isSeenAsTold G X K u 3 [(0, .ref (G.1 0)), (1, .int v1), (2, .int v2), (3, .int v3), (4, .int v4), (5, .int v5), (6, .int v6)] [] := by
  intro v6 o hf hk
  unfold f_X5_isSeenAsTold_L3_B at hf
  refine r_iload hC dX5_isSeenAsTold_3 6 rfl ?_
  refine r_iload hC dX5_isSeenAsTold_5 5 rfl ?_
  refine r_icmp_ge (tgt := 44) hC dX5_isSeenAsTold_7 (by decide) (fun c1 => ?_) (fun c1 => ?_)
  · have hf := ite_t c1 hf
    have hf := Option.some.inj hf
    subst hf
    refine r_loc [] rfl ?_
    exact hk.2 _ rfl
  · have hf := ite_f c1 hf
    refine r_aload_n hC dX5_isSeenAsTold_10 0 rfl ?_
    refine r_getr hC fd_RX5_32 dC_0 rfl dX5_isSeenAsTold_11 ?_
    refine r_iload_n hC dX5_isSeenAsTold_14 3 rfl ?_
    refine r_iload hC dX5_isSeenAsTold_15 4 rfl ?_
    refine r_iload hC dX5_isSeenAsTold_17 6 rfl ?_
    refine r_iadd hC dX5_isSeenAsTold_19 ?_
    obtain ⟨r2, er2, hf⟩ := ob_some hf
    refine r_cvl (As := [.int v3, .int (v4 + v6)]) (rest := []) hC (c_X3_itemOf er2) yv_X3_itemOf ml_RX5_287 dC_33 ⟨by decide, by decide, rfl, rfl⟩ rfl rfl (Nat.le_of_ble_eq_true rfl) dX5_isSeenAsTold_20 ?_
    refine r_iload_n hC dX5_isSeenAsTold_23 1 rfl ?_
    refine r_iload_n hC dX5_isSeenAsTold_24 2 rfl ?_
    refine r_iload hC dX5_isSeenAsTold_25 6 rfl ?_
    refine r_iadd hC dX5_isSeenAsTold_27 ?_
    refine r_csi (As := [.int v1, .int (v2 + v6)]) (rest := [.long r2]) hC c_X5_seenFrom ys_X5_seenFrom ml_RX5_127 ⟨by decide, by decide, rfl, rfl⟩ rfl rfl (Nat.le_of_ble_eq_true rfl) dX5_isSeenAsTold_28 ?_
    refine r_i2l hC dX5_isSeenAsTold_31 ?_
    refine r_lcmp hC dX5_isSeenAsTold_32 ?_
    refine r_if_eq (tgt := 38) hC dX5_isSeenAsTold_33 (by decide) (fun c3 => ?_) (fun c3 => ?_)
    · have hf := ite_t c3 hf
      refine r_iinc (v := 1) (lv' := [(6, .int (v6 + 1)), (0, .ref (G.1 0)), (1, .int v1), (2, .int v2), (3, .int v3), (4, .int v4), (5, .int v5)]) hC dX5_isSeenAsTold_38 6 rfl (by decide) (by decide) rfl ?_
      refine r_goto (tgt := 3) hC dX5_isSeenAsTold_41 (by decide) ?_
      refine r_loc [1, 2, 3, 4, 5, 6, 0] rfl ?_
      exact hrec (v6 + 1) o hf hk
    · have hf := ite_f c3 hf
      refine r_iconst (v := 0) hC dX5_isSeenAsTold_36 (by decide) ?_
      have hf := Option.some.inj hf
      subst hf
      exact r_zret hC rfl dX5_isSeenAsTold_37 (hk.1 _ rfl)
set_option maxHeartbeats 4000000 in
set_option maxRecDepth 100000 in
theorem t_X5_isSeenAsTold_L3 {l : Launch} {G : zG} {X : zX} {K : Option Value → zS → Prop} (hC : zC G X cX5_isSeenAsTold 7 RX5 (some .boolean)) {N : Nat} {u : zS} {v1 : Int32} {v2 : Int32} {v3 : Int32} {v4 : Int32} {v5 : Int32} : ∀ (n : Nat) (v6 : Int32) (o : (Int32) ⊕ (Unit)), f_X5_isSeenAsTold_L3 N u v1 v2 v3 v4 v5 n v6 = some o → ((∀ q, o = .inl q → K (some (.int q)) u) ∧ (∀ q, o = .inr q → zW dscC l rm_X5_isSeenAsTold G X K u 44 [] [])) → zW dscC l rm_X5_isSeenAsTold G X K u 3 [(0, .ref (G.1 0)), (1, .int v1), (2, .int v2), (3, .int v3), (4, .int v4), (5, .int v5), (6, .int v6)] [] := by
  intro n
  induction n with
  | zero => intro v6 o hf; cases hf
  | succ n ih => intro v6 o hf hk; exact t_X5_isSeenAsTold_L3_B hC (rec := f_X5_isSeenAsTold_L3 N u v1 v2 v3 v4 v5 n) ih v6 o hf hk
set_option maxHeartbeats 4000000 in
set_option maxRecDepth 100000 in
theorem t_X5_isSeenAsTold {l : Launch} {G : zG} {X : zX} {K : Option Value → zS → Prop} (hC : zC G X cX5_isSeenAsTold 7 RX5 (some .boolean)) {N : Nat} {u : zS} {v1 : Int32} {v2 : Int32} {v3 : Int32} {v4 : Int32} {v5 : Int32} (o : Int32) (hf : f_X5_isSeenAsTold N u v1 v2 v3 v4 v5 = some o) (hk : K (some (.int o)) u) : zW dscC l rm_X5_isSeenAsTold G X K u 0 [(0, .ref (G.1 0)), (1, .int v1), (2, .int v2), (3, .int v3), (4, .int v4), (5, .int v5)] [] := by
  unfold f_X5_isSeenAsTold at hf
  refine r_iconst (v := 0) hC dX5_isSeenAsTold_0 (by decide) ?_
  refine r_istore (lv' := [(6, .int 0), (0, .ref (G.1 0)), (1, .int v1), (2, .int v2), (3, .int v3), (4, .int v4), (5, .int v5)]) hC dX5_isSeenAsTold_1 (by decide) rfl ?_
  refine r_loc [1, 2, 3, 4, 5, 6, 0] rfl ?_
  rcases os_some hf with ⟨q5, eq4, hf⟩ | ⟨q4, eq4, hf⟩
  · have hf := Option.some.inj hf
    subst hf
    exact t_X5_isSeenAsTold_L3 hC N 0 _ eq4 ⟨fun _ h9 => by cases h9; exact hk, fun _ h9 => by cases h9⟩
  refine t_X5_isSeenAsTold_L3 hC N 0 _ eq4 ⟨fun _ h9 => (by cases h9), fun _ h9 => ?_⟩
  cases h9
  refine r_iconst (v := 1) hC dX5_isSeenAsTold_44 (by decide) ?_
  have hf := Option.some.inj hf
  subst hf
  exact r_zret hC rfl dX5_isSeenAsTold_45 hk
set_option maxHeartbeats 4000000 in
set_option maxRecDepth 100000 in
theorem c_X5_isSeenAsTold {l : Launch} {G : zG} {N : Nat} {u : zS} {v1 : Int32} {v2 : Int32} {v3 : Int32} {v4 : Int32} {v5 : Int32} {r : Int32} (hf : f_X5_isSeenAsTold N u v1 v2 v3 v4 v5 = some r) : zM l dscC yX5_isSeenAsTold cX5_isSeenAsTold 7 (some .boolean) rm_X5_isSeenAsTold G [.ref (G.1 0), .int v1, .int v2, .int v3, .int v4, .int v5] u (some (.int r)) u := zM.of (by decide) (Nat.le_of_ble_eq_true rfl) (fun X hC => t_X5_isSeenAsTold hC r hf ⟨rfl, rfl⟩)
set_option maxHeartbeats 4000000 in
set_option maxRecDepth 100000 in
theorem t_X5_counts_L81_B {l : Launch} {G : zG} {X : zX} {K : Option Value → zS → Prop} (hC : zC G X cX5_counts 13 RX5 (some .int)) {N : Nat} {u : zS} {v1 : Int32} {v2 : Int32} {v4 : Int32} {v5 : Int32} {v6 : Int32} {rec : Int32 → Int32 → Int32 → Int32 → Option (Int32 × Int32 × Int32)} (hrec : ∀ (v8 : Int32) (v9 : Int32) (v10 : Int32) (v11 : Int32) (o : Int32 × Int32 × Int32), rec v8 v9 v10 v11 = some o → zW dscC l rm_X5_counts G X K u 150 [(6, .int v6), (8, .int o.1), (9, .int o.2.1), (10, .int o.2.2)] [] → zW dscC l rm_X5_counts G X K u 81 [(0, .ref (G.1 0)), (1, .int v1), (2, .int v2), (4, .int v4), (5, .int v5), (6, .int v6), (8, .int v8), (9, .int v9), (10, .int v10), (11, .int v11)] []) : ∀ (v8 : Int32) (v9 : Int32) (v10 : Int32) (v11 : Int32) (o : Int32 × Int32 × Int32), f_X5_counts_L81_B N u v1 v2 v4 v5 v6 rec v8 v9 v10 v11 = some o → zW dscC l rm_X5_counts G X K u 150 [(6, .int v6), (8, .int o.1), (9, .int o.2.1), (10, .int o.2.2)] [] → zW dscC l rm_X5_counts G X K u 81 [(0, .ref (G.1 0)), (1, .int v1), (2, .int v2), (4, .int v4), (5, .int v5), (6, .int v6), (8, .int v8), (9, .int v9), (10, .int v10), (11, .int v11)] [] := by
  intro v8 v9 v10 v11 o hf hk
  unfold f_X5_counts_L81_B at hf
  refine r_iload hC dX5_counts_81 9 rfl ?_
  refine r_sipush (v := 256) hC dX5_counts_83 (by decide) ?_
  refine r_icmp_ge (tgt := 150) hC dX5_counts_86 (by decide) (fun c8 => ?_) (fun c8 => ?_)
  · have hf := ite_t c8 hf
    have hf := Option.some.inj hf
    subst hf
    refine r_loc [5, 6, 7, 8] rfl ?_
    exact hk
  · have hf := ite_f c8 hf
    refine r_aload_n hC dX5_counts_89 0 rfl ?_
    refine r_iload hC dX5_counts_90 9 rfl ?_
    refine r_iload_n hC dX5_counts_92 1 rfl ?_
    refine r_iload_n hC dX5_counts_93 2 rfl ?_
    refine r_iload hC dX5_counts_94 3 rfl ?_
    refine r_iload hC dX5_counts_96 4 rfl ?_
    obtain ⟨r9, er9, hf⟩ := ob_some hf
    refine r_cvi (As := [.int v11, .int v1, .int v2, .int v4, .int v5]) (rest := []) hC (c_X5_isSeenAsTold er9) yv_X5_isSeenAsTold ml_RX5_242 dC_0 ⟨by decide, by decide, rfl, rfl⟩ rfl rfl (Nat.le_of_ble_eq_true rfl) dX5_counts_98 ?_
    refine r_if_eq (tgt := 144) hC dX5_counts_101 (by decide) (fun c10 => ?_) (fun c10 => ?_)
    · have hf := ite_t c10 hf
      refine r_iinc (v := 1) (lv' := [(11, .int (v11 + 1)), (0, .ref (G.1 0)), (1, .int v1), (2, .int v2), (4, .int v4), (5, .int v5), (6, .int v6), (8, .int v8), (9, .int v9), (10, .int v10)]) hC dX5_counts_144 9 rfl (by decide) (by decide) rfl ?_
      refine r_goto (tgt := 81) hC dX5_counts_147 (by decide) ?_
      refine r_loc [1, 2, 3, 4, 5, 6, 7, 8, 9, 0] rfl ?_
      exact hrec v8 v9 v10 (v11 + 1) o hf hk
    · have hf := ite_f c10 hf
      refine r_iload hC dX5_counts_104 9 rfl ?_
      refine r_csi (As := [.int v11]) (rest := []) hC c_J6_bitCount_0f7a4 ys_J6_bitCount_0f7a4 ml_RX5_179 ⟨by decide, by decide, rfl, rfl⟩ rfl rfl (Nat.le_of_ble_eq_true rfl) dX5_counts_106 ?_
      refine r_topi (fun w11 ew11 => ?_)
      have hf := olet_at ew11 hf
      refine r_istore (lv' := [(12, .int w11), (0, .ref (G.1 0)), (1, .int v1), (2, .int v2), (4, .int v4), (5, .int v5), (6, .int v6), (8, .int v8), (9, .int v9), (10, .int v10), (11, .int v11)]) hC dX5_counts_109 (by decide) rfl ?_
      refine r_iinc (v := 1) (lv' := [(8, .int (v8 + 1)), (12, .int w11), (0, .ref (G.1 0)), (1, .int v1), (2, .int v2), (4, .int v4), (5, .int v5), (6, .int v6), (9, .int v9), (10, .int v10), (11, .int v11)]) hC dX5_counts_111 7 rfl (by decide) (by decide) rfl ?_
      refine r_iload hC dX5_counts_114 8 rfl ?_
      refine r_bipush (v := (-4)) hC dX5_counts_116 (by decide) ?_
      refine r_icmp_ne (tgt := 126) hC dX5_counts_118 (by decide) (fun c12 => ?_) (fun c12 => ?_)
      · have hf := ite_f c12 hf
        refine r_iload hC dX5_counts_126 8 rfl ?_
        refine r_iload hC dX5_counts_128 1 rfl ?_
        refine r_mmin hC mm_RX5_246 ym_min ⟨by decide, Nat.le_of_ble_eq_true rfl⟩ dX5_counts_130 ?_
        refine r_topi (fun w13 ew13 => ?_)
        have hf := olet_at ew13 hf
        refine r_istore (lv' := [(9, .int w13), (8, .int (v8 + 1)), (12, .int w11), (0, .ref (G.1 0)), (1, .int v1), (2, .int v2), (4, .int v4), (5, .int v5), (6, .int v6), (10, .int v10), (11, .int v11)]) hC dX5_counts_133 (by decide) rfl ?_
        refine r_iload hC dX5_counts_135 9 rfl ?_
        refine r_iload hC dX5_counts_137 2 rfl ?_
        refine r_mmax hC mm_RX5_251 ym_max ⟨by decide, Nat.le_of_ble_eq_true rfl⟩ dX5_counts_139 ?_
        refine r_topi (fun w14 ew14 => ?_)
        have hf := olet_at ew14 hf
        refine r_istore (lv' := [(10, .int w14), (9, .int w13), (8, .int (v8 + 1)), (12, .int w11), (0, .ref (G.1 0)), (1, .int v1), (2, .int v2), (4, .int v4), (5, .int v5), (6, .int v6), (11, .int v11)]) hC dX5_counts_142 (by decide) rfl ?_
        refine r_iinc (v := 1) (lv' := [(11, .int (v11 + 1)), (10, .int w14), (9, .int w13), (8, .int (v8 + 1)), (12, .int w11), (0, .ref (G.1 0)), (1, .int v1), (2, .int v2), (4, .int v4), (5, .int v5), (6, .int v6)]) hC dX5_counts_144 10 rfl (by decide) (by decide) rfl ?_
        refine r_goto (tgt := 81) hC dX5_counts_147 (by decide) ?_
        refine r_loc [5, 6, 7, 8, 9, 10, 3, 2, 1, 0] rfl ?_
        exact hrec (v8 + 1) w13 w14 (v11 + 1) o hf hk
      · have hf := ite_t c12 hf
        refine r_iload hC dX5_counts_121 1 rfl ?_
        refine r_goto (tgt := 133) hC dX5_counts_123 (by decide) ?_
        refine r_istore (lv' := [(9, .int w11), (8, .int (v8 + 1)), (12, .int w11), (0, .ref (G.1 0)), (1, .int v1), (2, .int v2), (4, .int v4), (5, .int v5), (6, .int v6), (10, .int v10), (11, .int v11)]) hC dX5_counts_133 (by decide) rfl ?_
        refine r_iload hC dX5_counts_135 9 rfl ?_
        refine r_iload hC dX5_counts_137 2 rfl ?_
        refine r_mmax hC mm_RX5_251 ym_max ⟨by decide, Nat.le_of_ble_eq_true rfl⟩ dX5_counts_139 ?_
        refine r_topi (fun w15 ew15 => ?_)
        have hf := olet_at ew15 hf
        refine r_istore (lv' := [(10, .int w15), (9, .int w11), (8, .int (v8 + 1)), (12, .int w11), (0, .ref (G.1 0)), (1, .int v1), (2, .int v2), (4, .int v4), (5, .int v5), (6, .int v6), (11, .int v11)]) hC dX5_counts_142 (by decide) rfl ?_
        refine r_iinc (v := 1) (lv' := [(11, .int (v11 + 1)), (10, .int w15), (9, .int w11), (8, .int (v8 + 1)), (12, .int w11), (0, .ref (G.1 0)), (1, .int v1), (2, .int v2), (4, .int v4), (5, .int v5), (6, .int v6)]) hC dX5_counts_144 10 rfl (by decide) (by decide) rfl ?_
        refine r_goto (tgt := 81) hC dX5_counts_147 (by decide) ?_
        refine r_loc [5, 6, 7, 8, 9, 10, 3, 2, 1, 0] rfl ?_
        exact hrec (v8 + 1) w11 w15 (v11 + 1) o hf hk
set_option maxHeartbeats 4000000 in
set_option maxRecDepth 100000 in
theorem t_X5_counts_L81 {l : Launch} {G : zG} {X : zX} {K : Option Value → zS → Prop} (hC : zC G X cX5_counts 13 RX5 (some .int)) {N : Nat} {u : zS} {v1 : Int32} {v2 : Int32} {v4 : Int32} {v5 : Int32} {v6 : Int32} : ∀ (n : Nat) (v8 : Int32) (v9 : Int32) (v10 : Int32) (v11 : Int32) (o : Int32 × Int32 × Int32), f_X5_counts_L81 N u v1 v2 v4 v5 v6 n v8 v9 v10 v11 = some o → zW dscC l rm_X5_counts G X K u 150 [(6, .int v6), (8, .int o.1), (9, .int o.2.1), (10, .int o.2.2)] [] → zW dscC l rm_X5_counts G X K u 81 [(0, .ref (G.1 0)), (1, .int v1), (2, .int v2), (4, .int v4), (5, .int v5), (6, .int v6), (8, .int v8), (9, .int v9), (10, .int v10), (11, .int v11)] [] := by
  intro n
  induction n with
  | zero => intro v8 v9 v10 v11 o hf; cases hf
  | succ n ih => intro v8 v9 v10 v11 o hf hk; exact t_X5_counts_L81_B hC (rec := f_X5_counts_L81 N u v1 v2 v4 v5 v6 n) ih v8 v9 v10 v11 o hf hk
set_option maxHeartbeats 4000000 in
set_option maxRecDepth 100000 in
theorem t_X5_counts {l : Launch} {G : zG} {X : zX} {K : Option Value → zS → Prop} (hC : zC G X cX5_counts 13 RX5 (some .int)) {N : Nat} {u : zS} {v1 : Int32} {v2 : Int32} {v3 : Int32} {v4 : Int32} {v5 : Int32} {v6 : Int32} (o : Int32) (hf : f_X5_counts N u v1 v2 v3 v4 v5 v6 = some o) (hk : K (some (.int o)) u) : zW dscC l rm_X5_counts G X K u 0 [(0, .ref (G.1 0)), (1, .int v1), (2, .int v2), (3, .int v3), (4, .int v4), (5, .int v5), (6, .int v6)] [] := by
  unfold f_X5_counts at hf
  refine r_iload_n hC dX5_counts_0 1 rfl ?_
  refine r_csi (As := [.int v1]) (rest := []) hC c_X5_isPlace ys_X5_isPlace ml_RX5_54 ⟨by decide, by decide, rfl, rfl⟩ rfl rfl (Nat.le_of_ble_eq_true rfl) dX5_counts_1 ?_
  refine r_if_eq (tgt := 42) hC dX5_counts_4 (by decide) (fun c1 => ?_) (fun c1 => ?_)
  · have hf := ite_t c1 hf
    refine r_iconst (v := (-1)) hC dX5_counts_42 (by decide) ?_
    have hf := Option.some.inj hf
    subst hf
    exact r_iret hC dX5_counts_43 hk
  · have hf := ite_f c1 hf
    refine r_iload_n hC dX5_counts_7 2 rfl ?_
    refine r_csi (As := [.int v2]) (rest := []) hC c_X5_isSheet ys_X5_isSheet ml_RX5_232 ⟨by decide, by decide, rfl, rfl⟩ rfl rfl (Nat.le_of_ble_eq_true rfl) dX5_counts_8 ?_
    refine r_if_eq (tgt := 42) hC dX5_counts_11 (by decide) (fun c2 => ?_) (fun c2 => ?_)
    · have hf := ite_t c2 hf
      refine r_iconst (v := (-1)) hC dX5_counts_42 (by decide) ?_
      have hf := Option.some.inj hf
      subst hf
      exact r_iret hC dX5_counts_43 hk
    · have hf := ite_f c2 hf
      refine r_iload_n hC dX5_counts_14 3 rfl ?_
      refine r_csi (As := [.int v3]) (rest := []) hC c_X5_isLane ys_X5_isLane ml_RX5_235 ⟨by decide, by decide, rfl, rfl⟩ rfl rfl (Nat.le_of_ble_eq_true rfl) dX5_counts_15 ?_
      refine r_if_eq (tgt := 42) hC dX5_counts_18 (by decide) (fun c3 => ?_) (fun c3 => ?_)
      · have hf := ite_t c3 hf
        refine r_iconst (v := (-1)) hC dX5_counts_42 (by decide) ?_
        have hf := Option.some.inj hf
        subst hf
        exact r_iret hC dX5_counts_43 hk
      · have hf := ite_f c3 hf
        refine r_iload hC dX5_counts_21 5 rfl ?_
        refine r_iconst (v := 1) hC dX5_counts_23 (by decide) ?_
        refine r_bipush (v := 8) hC dX5_counts_24 (by decide) ?_
        refine r_csi (As := [.int v5, .int 1, .int 8]) (rest := []) hC c_X5_within ys_X5_within ml_RX5_83 ⟨by decide, by decide, rfl, rfl⟩ rfl rfl (Nat.le_of_ble_eq_true rfl) dX5_counts_26 ?_
        refine r_if_eq (tgt := 42) hC dX5_counts_29 (by decide) (fun c4 => ?_) (fun c4 => ?_)
        · have hf := ite_t c4 hf
          refine r_iconst (v := (-1)) hC dX5_counts_42 (by decide) ?_
          have hf := Option.some.inj hf
          subst hf
          exact r_iret hC dX5_counts_43 hk
        · have hf := ite_f c4 hf
          refine r_iload hC dX5_counts_32 6 rfl ?_
          refine r_iconst (v := 0) hC dX5_counts_34 (by decide) ?_
          refine r_iconst (v := 2) hC dX5_counts_35 (by decide) ?_
          refine r_csi (As := [.int v6, .int 0, .int 2]) (rest := []) hC c_X5_within ys_X5_within ml_RX5_83 ⟨by decide, by decide, rfl, rfl⟩ rfl rfl (Nat.le_of_ble_eq_true rfl) dX5_counts_36 ?_
          refine r_if_ne (tgt := 44) hC dX5_counts_39 (by decide) (fun c5 => ?_) (fun c5 => ?_)
          · have hf := ite_f c5 hf
            refine r_aload_n hC dX5_counts_44 0 rfl ?_
            refine r_getr hC fd_RX5_32 dC_0 rfl dX5_counts_45 ?_
            refine r_iload_n hC dX5_counts_48 2 rfl ?_
            refine r_iload_n hC dX5_counts_49 3 rfl ?_
            refine r_iload hC dX5_counts_50 4 rfl ?_
            refine r_iload hC dX5_counts_52 5 rfl ?_
            obtain ⟨r6, er6, hf⟩ := ob_some hf
            refine r_cvi (As := [.int v2, .int v3, .int v4, .int v5]) (rest := []) hC (c_X3_refused er6) yv_X3_refused ml_RX5_238 dC_33 ⟨by decide, by decide, rfl, rfl⟩ rfl rfl (Nat.le_of_ble_eq_true rfl) dX5_counts_54 ?_
            refine r_istore (lv' := [(7, .int r6), (0, .ref (G.1 0)), (1, .int v1), (2, .int v2), (3, .int v3), (4, .int v4), (5, .int v5), (6, .int v6)]) hC dX5_counts_57 (by decide) rfl ?_
            refine r_iload hC dX5_counts_59 0 rfl ?_
            refine r_if_ge (tgt := 67) hC dX5_counts_61 (by decide) (fun c7 => ?_) (fun c7 => ?_)
            · have hf := ite_t c7 hf
              refine r_iconst (v := 0) hC dX5_counts_67 (by decide) ?_
              refine r_istore (lv' := [(8, .int 0), (7, .int r6), (0, .ref (G.1 0)), (1, .int v1), (2, .int v2), (3, .int v3), (4, .int v4), (5, .int v5), (6, .int v6)]) hC dX5_counts_68 (by decide) rfl ?_
              refine r_bipush (v := (-4)) hC dX5_counts_70 (by decide) ?_
              refine r_istore (lv' := [(9, .int (-4)), (8, .int 0), (7, .int r6), (0, .ref (G.1 0)), (1, .int v1), (2, .int v2), (3, .int v3), (4, .int v4), (5, .int v5), (6, .int v6)]) hC dX5_counts_72 (by decide) rfl ?_
              refine r_bipush (v := (-4)) hC dX5_counts_74 (by decide) ?_
              refine r_istore (lv' := [(10, .int (-4)), (9, .int (-4)), (8, .int 0), (7, .int r6), (0, .ref (G.1 0)), (1, .int v1), (2, .int v2), (3, .int v3), (4, .int v4), (5, .int v5), (6, .int v6)]) hC dX5_counts_76 (by decide) rfl ?_
              refine r_iconst (v := 0) hC dX5_counts_78 (by decide) ?_
              refine r_istore (lv' := [(11, .int 0), (10, .int (-4)), (9, .int (-4)), (8, .int 0), (7, .int r6), (0, .ref (G.1 0)), (1, .int v1), (2, .int v2), (3, .int v3), (4, .int v4), (5, .int v5), (6, .int v6)]) hC dX5_counts_79 (by decide) rfl ?_
              refine r_loc [5, 6, 7, 9, 10, 11, 3, 2, 1, 0] rfl ?_
              obtain ⟨q16, eq16, hf⟩ := ob_some hf
              refine t_X5_counts_L81 hC N 0 (-4) (-4) 0 q16 eq16 ?_
              refine r_iload hC dX5_counts_150 0 rfl ?_
              refine r_if_ne (tgt := 160) hC dX5_counts_152 (by decide) (fun c17 => ?_) (fun c17 => ?_)
              · have hf := ite_f c17 hf
                refine r_iload hC dX5_counts_160 0 rfl ?_
                refine r_iconst (v := 1) hC dX5_counts_162 (by decide) ?_
                refine r_icmp_ne (tgt := 171) hC dX5_counts_163 (by decide) (fun c18 => ?_) (fun c18 => ?_)
                · have hf := ite_f c18 hf
                  refine r_iload hC dX5_counts_171 3 rfl ?_
                  have hf := Option.some.inj hf
                  subst hf
                  exact r_iret hC dX5_counts_173 hk
                · have hf := ite_t c18 hf
                  refine r_iload hC dX5_counts_166 2 rfl ?_
                  refine r_goto (tgt := 173) hC dX5_counts_168 (by decide) ?_
                  have hf := Option.some.inj hf
                  subst hf
                  exact r_iret hC dX5_counts_173 hk
              · have hf := ite_t c17 hf
                refine r_iload hC dX5_counts_155 1 rfl ?_
                refine r_goto (tgt := 173) hC dX5_counts_157 (by decide) ?_
                have hf := Option.some.inj hf
                subst hf
                exact r_iret hC dX5_counts_173 hk
            · have hf := ite_f c7 hf
              refine r_iload hC dX5_counts_64 0 rfl ?_
              have hf := Option.some.inj hf
              subst hf
              exact r_iret hC dX5_counts_66 hk
          · have hf := ite_t c5 hf
            refine r_iconst (v := (-1)) hC dX5_counts_42 (by decide) ?_
            have hf := Option.some.inj hf
            subst hf
            exact r_iret hC dX5_counts_43 hk
set_option maxHeartbeats 4000000 in
set_option maxRecDepth 100000 in
theorem c_X5_counts {l : Launch} {G : zG} {N : Nat} {u : zS} {v1 : Int32} {v2 : Int32} {v3 : Int32} {v4 : Int32} {v5 : Int32} {v6 : Int32} {r : Int32} (hf : f_X5_counts N u v1 v2 v3 v4 v5 v6 = some r) : zM l dscC yX5_counts cX5_counts 13 (some .int) rm_X5_counts G [.ref (G.1 0), .int v1, .int v2, .int v3, .int v4, .int v5, .int v6] u (some (.int r)) u := zM.of (by decide) (Nat.le_of_ble_eq_true rfl) (fun X hC => t_X5_counts hC r hf ⟨rfl, rfl⟩)
set_option maxHeartbeats 4000000 in
set_option maxRecDepth 100000 in
theorem t_X5_goesAsTold_L11_B {l : Launch} {G : zG} {X : zX} {K : Option Value → zS → Prop} (hC : zC G X cX5_goesAsTold 8 RX5 (some .boolean)) {N : Nat} {u : zS} {v3 : Int32} {v4 : Int32} {v5 : Int32} {rec : Int32 → Int32 → Option ((Int32) ⊕ (Unit))} (hrec : ∀ (v6 : Int32) (v7 : Int32) (o : (Int32) ⊕ (Unit)), rec v6 v7 = some o → ((∀ q, o = .inl q → K (some (.int q)) u) ∧ (∀ q, o = .inr q → zW dscC l rm_X5_goesAsTold G X K u 61 [] [])) → zW dscC l rm_X5_goesAsTold G X K u 11 [(0, .ref (G.1 0)), (1, .ref (G.1 21)), (3, .int v3), (4, .int v4), (5, .int v5), (6, .int v6), (7, .int v7)] []) : ∀ (v6 : Int32) (v7 : Int32) (o : (Int32) ⊕ (Unit)), f_X5_goesAsTold_L11_B N u v3 v4 v5 rec v6 v7 = some o → ((∀ q, o = .inl q → K (some (.int q)) u) ∧ (∀ q, o = .inr q → zW dscC l rm_X5_goesAsTold G X K u 61 [] [])) → zW dscC l rm_X5_goesAsTold G X K u 11 [(0, .ref (G.1 0)), (1, .ref (G.1 21)), (3, .int v3), (4, .int v4), (5, .int v5), (6, .int v6), (7, .int v7)] [] := by
  intro v6 v7 o hf hk
  unfold f_X5_goesAsTold_L11_B at hf
  refine r_iload hC dX5_goesAsTold_11 6 rfl ?_
  refine r_iload hC dX5_goesAsTold_13 4 rfl ?_
  refine r_icmp_ge (tgt := 61) hC dX5_goesAsTold_15 (by decide) (fun c3 => ?_) (fun c3 => ?_)
  · have hf := ite_t c3 hf
    have hf := Option.some.inj hf
    subst hf
    refine r_loc [] rfl ?_
    exact hk.2 _ rfl
  · have hf := ite_f c3 hf
    refine r_aload_n hC dX5_goesAsTold_18 1 rfl ?_
    refine r_iload hC dX5_goesAsTold_19 5 rfl ?_
    refine r_aload_n hC dX5_goesAsTold_21 1 rfl ?_
    refine r_geti hC fd_RX5_154 dC_21 rfl dX5_goesAsTold_22 ?_
    refine r_iload hC dX5_goesAsTold_25 6 rfl ?_
    refine r_iadd hC dX5_goesAsTold_27 ?_
    obtain ⟨r4, er4, hf⟩ := ob_some hf
    refine r_cvi (As := [.int v6, .int ((u.1 21 9) + v7)]) (rest := []) hC (c_X1_goesOn isR_21 er4) yv_X1_goesOn ml_RX5_203 dC_21 ⟨by decide, by decide, rfl, rfl⟩ rfl rfl (Nat.le_of_ble_eq_true rfl) dX5_goesAsTold_28 ?_
    refine r_istore (lv' := [(6, .int r4), (0, .ref (G.1 0)), (1, .ref (G.1 21)), (3, .int v3), (4, .int v4), (5, .int v5), (7, .int v7)]) hC dX5_goesAsTold_31 (by decide) rfl ?_
    refine r_aload_n hC dX5_goesAsTold_33 1 rfl ?_
    refine r_getr hC fd_RX5_32 dC_0 rfl dX5_goesAsTold_34 ?_
    refine r_iload_n hC dX5_goesAsTold_37 3 rfl ?_
    refine r_iload hC dX5_goesAsTold_38 4 rfl ?_
    refine r_iload hC dX5_goesAsTold_40 6 rfl ?_
    refine r_iadd hC dX5_goesAsTold_42 ?_
    obtain ⟨r5, er5, hf⟩ := ob_some hf
    refine r_cvl (As := [.int v3, .int (v4 + v7)]) (rest := []) hC (c_X3_itemOf er5) yv_X3_itemOf ml_RX5_287 dC_33 ⟨by decide, by decide, rfl, rfl⟩ rfl rfl (Nat.le_of_ble_eq_true rfl) dX5_goesAsTold_43 ?_
    refine r_iload hC dX5_goesAsTold_46 0 rfl ?_
    refine r_i2l hC dX5_goesAsTold_48 ?_
    refine r_lcmp hC dX5_goesAsTold_49 ?_
    refine r_if_eq (tgt := 55) hC dX5_goesAsTold_50 (by decide) (fun c6 => ?_) (fun c6 => ?_)
    · have hf := ite_t c6 hf
      refine r_iinc (v := 1) (lv' := [(7, .int (v7 + 1)), (6, .int r4), (0, .ref (G.1 0)), (1, .ref (G.1 21)), (3, .int v3), (4, .int v4), (5, .int v5)]) hC dX5_goesAsTold_55 6 rfl (by decide) (by decide) rfl ?_
      refine r_goto (tgt := 11) hC dX5_goesAsTold_58 (by decide) ?_
      refine r_loc [2, 3, 4, 5, 6, 1, 0] rfl ?_
      exact hrec r4 (v7 + 1) o hf hk
    · have hf := ite_f c6 hf
      refine r_iconst (v := 0) hC dX5_goesAsTold_53 (by decide) ?_
      have hf := Option.some.inj hf
      subst hf
      exact r_zret hC rfl dX5_goesAsTold_54 (hk.1 _ rfl)
set_option maxHeartbeats 4000000 in
set_option maxRecDepth 100000 in
theorem t_X5_goesAsTold_L11 {l : Launch} {G : zG} {X : zX} {K : Option Value → zS → Prop} (hC : zC G X cX5_goesAsTold 8 RX5 (some .boolean)) {N : Nat} {u : zS} {v3 : Int32} {v4 : Int32} {v5 : Int32} : ∀ (n : Nat) (v6 : Int32) (v7 : Int32) (o : (Int32) ⊕ (Unit)), f_X5_goesAsTold_L11 N u v3 v4 v5 n v6 v7 = some o → ((∀ q, o = .inl q → K (some (.int q)) u) ∧ (∀ q, o = .inr q → zW dscC l rm_X5_goesAsTold G X K u 61 [] [])) → zW dscC l rm_X5_goesAsTold G X K u 11 [(0, .ref (G.1 0)), (1, .ref (G.1 21)), (3, .int v3), (4, .int v4), (5, .int v5), (6, .int v6), (7, .int v7)] [] := by
  intro n
  induction n with
  | zero => intro v6 v7 o hf; cases hf
  | succ n ih => intro v6 v7 o hf hk; exact t_X5_goesAsTold_L11_B hC (rec := f_X5_goesAsTold_L11 N u v3 v4 v5 n) ih v6 v7 o hf hk
set_option maxHeartbeats 4000000 in
set_option maxRecDepth 100000 in
theorem t_X5_goesAsTold {l : Launch} {G : zG} {X : zX} {K : Option Value → zS → Prop} (hC : zC G X cX5_goesAsTold 8 RX5 (some .boolean)) {N : Nat} {u : zS} {v2 : Int32} {v3 : Int32} {v4 : Int32} {v5 : Int32} (o : Int32) (hf : f_X5_goesAsTold N u v2 v3 v4 v5 = some o) (hk : K (some (.int o)) u) : zW dscC l rm_X5_goesAsTold G X K u 0 [(0, .ref (G.1 0)), (1, .ref (G.1 21)), (2, .int v2), (3, .int v3), (4, .int v4), (5, .int v5)] [] := by
  unfold f_X5_goesAsTold at hf
  refine r_aload_n hC dX5_goesAsTold_0 1 rfl ?_
  refine r_getr hC fd_RX5_124 dC_21 rfl dX5_goesAsTold_1 ?_
  refine r_iload_n hC dX5_goesAsTold_4 2 rfl ?_
  obtain ⟨g1, hf⟩ := og_in hf
  refine r_iald hC dC_22 g1 dX5_goesAsTold_5 ?_
  refine r_topi (fun w2 ew2 => ?_)
  have hf := olet_at ew2 hf
  refine r_istore (lv' := [(6, .int w2), (0, .ref (G.1 0)), (1, .ref (G.1 21)), (2, .int v2), (3, .int v3), (4, .int v4), (5, .int v5)]) hC dX5_goesAsTold_6 (by decide) rfl ?_
  refine r_iconst (v := 0) hC dX5_goesAsTold_8 (by decide) ?_
  refine r_istore (lv' := [(7, .int 0), (6, .int w2), (0, .ref (G.1 0)), (1, .ref (G.1 21)), (2, .int v2), (3, .int v3), (4, .int v4), (5, .int v5)]) hC dX5_goesAsTold_9 (by decide) rfl ?_
  refine r_loc [2, 3, 5, 6, 7, 1, 0] rfl ?_
  rcases os_some hf with ⟨q8, eq7, hf⟩ | ⟨q7, eq7, hf⟩
  · have hf := Option.some.inj hf
    subst hf
    exact t_X5_goesAsTold_L11 hC N w2 0 _ eq7 ⟨fun _ h9 => by cases h9; exact hk, fun _ h9 => by cases h9⟩
  refine t_X5_goesAsTold_L11 hC N w2 0 _ eq7 ⟨fun _ h9 => (by cases h9), fun _ h9 => ?_⟩
  cases h9
  refine r_iconst (v := 1) hC dX5_goesAsTold_61 (by decide) ?_
  have hf := Option.some.inj hf
  subst hf
  exact r_zret hC rfl dX5_goesAsTold_62 hk
set_option maxHeartbeats 4000000 in
set_option maxRecDepth 100000 in
theorem c_X5_goesAsTold {l : Launch} {G : zG} {N : Nat} {u : zS} {v2 : Int32} {v3 : Int32} {v4 : Int32} {v5 : Int32} {r : Int32} (hf : f_X5_goesAsTold N u v2 v3 v4 v5 = some r) : zM l dscC yX5_goesAsTold cX5_goesAsTold 8 (some .boolean) rm_X5_goesAsTold G [.ref (G.1 0), .ref (G.1 21), .int v2, .int v3, .int v4, .int v5] u (some (.int r)) u := zM.of (by decide) (Nat.le_of_ble_eq_true rfl) (fun X hC => t_X5_goesAsTold hC r hf ⟨rfl, rfl⟩)
set_option maxHeartbeats 4000000 in
set_option maxRecDepth 100000 in
theorem t_X5_steps_J186 {l : Launch} {G : zG} {X : zX} {K : Option Value → zS → Prop} (hC : zC G X cX5_steps 12 RX5 (some .int)) {N : Nat} {v1 : Int32} {v2 : Int32} {v3 : Int32} {v5 : Int32} {v6 : Int32} {v7 : Int32} {v10 : Int32} {rec : zS → Int32 → Int32 → Option (Int32 × zS)} (hrec : ∀ (u : zS) (v9 : Int32) (v11 : Int32) (o : Int32 × zS), rec u v9 v11 = some o → zW dscC l rm_X5_steps G X K o.2 218 [(9, .int o.1)] [] → zW dscC l rm_X5_steps G X K u 133 [(0, .ref (G.1 0)), (1, .int v1), (2, .int v2), (3, .int v3), (5, .int v5), (6, .int v6), (7, .int v7), (9, .int v9), (10, .int v10), (11, .int v11)] []) : ∀ (u : zS) (v9 : Int32) (v11 : Int32) (o : Int32 × zS), f_X5_steps_J186 N v1 v2 v3 v5 v6 v7 v10 rec u v9 v11 = some o → zW dscC l rm_X5_steps G X K o.2 218 [(9, .int o.1)] [] → zW dscC l rm_X5_steps G X K u 186 [(0, .ref (G.1 0)), (1, .int v1), (2, .int v2), (3, .int v3), (5, .int v5), (6, .int v6), (7, .int v7), (9, .int v9), (10, .int v10), (11, .int v11)] [] := by
  intro u v9 v11 o hf hk
  unfold f_X5_steps_J186 at hf
  refine r_aload_n hC dX5_steps_186 0 rfl ?_
  refine r_aload_n hC dX5_steps_187 0 rfl ?_
  refine r_getr hC fd_RX5_19 dC_0 rfl dX5_steps_188 ?_
  refine r_iload_n hC dX5_steps_191 1 rfl ?_
  refine r_iload_n hC dX5_steps_192 3 rfl ?_
  refine r_iload hC dX5_steps_193 4 rfl ?_
  refine r_iload hC dX5_steps_195 5 rfl ?_
  obtain ⟨r17, er17, hf⟩ := ob_some hf
  refine r_cvi (As := [.ref (G.1 21), .int v1, .int v3, .int v5, .int v6]) (rest := []) hC (c_X5_goesAsTold er17) yv_X5_goesAsTold ml_RX5_258 dC_0 ⟨by decide, by decide, rfl, rfl⟩ rfl rfl (Nat.le_of_ble_eq_true rfl) dX5_steps_197 ?_
  refine r_if_eq (tgt := 212) hC dX5_steps_200 (by decide) (fun c18 => ?_) (fun c18 => ?_)
  · have hf := ite_t c18 hf
    refine r_iinc (v := 1) (lv' := [(11, .int (v11 + 1)), (0, .ref (G.1 0)), (1, .int v1), (2, .int v2), (3, .int v3), (5, .int v5), (6, .int v6), (7, .int v7), (9, .int v9), (10, .int v10)]) hC dX5_steps_212 9 rfl (by decide) (by decide) rfl ?_
    refine r_goto (tgt := 133) hC dX5_steps_215 (by decide) ?_
    refine r_loc [1, 2, 3, 4, 5, 6, 7, 8, 9, 0] rfl ?_
    exact hrec u v9 (v11 + 1) o hf hk
  · have hf := ite_f c18 hf
    refine r_iload hC dX5_steps_203 7 rfl ?_
    refine r_iconst (v := 1) hC dX5_steps_205 (by decide) ?_
    refine r_iload hC dX5_steps_206 9 rfl ?_
    refine r_ishl (x := 1) (y := v11) hC dX5_steps_208 ?_
    refine r_ior hC dX5_steps_209 ?_
    refine r_topi (fun w19 ew19 => ?_)
    have hf := olet_at ew19 hf
    refine r_istore (lv' := [(9, .int w19), (0, .ref (G.1 0)), (1, .int v1), (2, .int v2), (3, .int v3), (5, .int v5), (6, .int v6), (7, .int v7), (10, .int v10), (11, .int v11)]) hC dX5_steps_210 (by decide) rfl ?_
    refine r_iinc (v := 1) (lv' := [(11, .int (v11 + 1)), (9, .int w19), (0, .ref (G.1 0)), (1, .int v1), (2, .int v2), (3, .int v3), (5, .int v5), (6, .int v6), (7, .int v7), (10, .int v10)]) hC dX5_steps_212 9 rfl (by decide) (by decide) rfl ?_
    refine r_goto (tgt := 133) hC dX5_steps_215 (by decide) ?_
    refine r_loc [2, 3, 4, 5, 6, 7, 8, 1, 9, 0] rfl ?_
    exact hrec u w19 (v11 + 1) o hf hk
set_option maxHeartbeats 4000000 in
set_option maxRecDepth 100000 in
theorem t_X5_steps_L133_B {l : Launch} {G : zG} {X : zX} {K : Option Value → zS → Prop} (hC : zC G X cX5_steps 12 RX5 (some .int)) {N : Nat} {v1 : Int32} {v2 : Int32} {v3 : Int32} {v5 : Int32} {v6 : Int32} {v7 : Int32} {v10 : Int32} {rec : zS → Int32 → Int32 → Option (Int32 × zS)} (hrec : ∀ (u : zS) (v9 : Int32) (v11 : Int32) (o : Int32 × zS), rec u v9 v11 = some o → zW dscC l rm_X5_steps G X K o.2 218 [(9, .int o.1)] [] → zW dscC l rm_X5_steps G X K u 133 [(0, .ref (G.1 0)), (1, .int v1), (2, .int v2), (3, .int v3), (5, .int v5), (6, .int v6), (7, .int v7), (9, .int v9), (10, .int v10), (11, .int v11)] []) : ∀ (u : zS) (v9 : Int32) (v11 : Int32) (o : Int32 × zS), f_X5_steps_L133_B N v1 v2 v3 v5 v6 v7 v10 rec u v9 v11 = some o → zW dscC l rm_X5_steps G X K o.2 218 [(9, .int o.1)] [] → zW dscC l rm_X5_steps G X K u 133 [(0, .ref (G.1 0)), (1, .int v1), (2, .int v2), (3, .int v3), (5, .int v5), (6, .int v6), (7, .int v7), (9, .int v9), (10, .int v10), (11, .int v11)] [] := by
  intro u v9 v11 o hf hk
  unfold f_X5_steps_L133_B at hf
  refine r_iload hC dX5_steps_133 9 rfl ?_
  refine r_iload hC dX5_steps_135 8 rfl ?_
  refine r_icmp_ge (tgt := 218) hC dX5_steps_137 (by decide) (fun c13 => ?_) (fun c13 => ?_)
  · have hf := ite_t c13 hf
    have hf := Option.some.inj hf
    subst hf
    refine r_loc [7] rfl ?_
    exact hk
  · have hf := ite_f c13 hf
    refine r_iload hC dX5_steps_140 6 rfl ?_
    refine r_if_ne (tgt := 167) hC dX5_steps_142 (by decide) (fun c14 => ?_) (fun c14 => ?_)
    · have hf := ite_f c14 hf
      refine r_aload_n hC dX5_steps_167 0 rfl ?_
      refine r_getr hC fd_RX5_19 dC_0 rfl dX5_steps_168 ?_
      refine r_iload_n hC dX5_steps_171 2 rfl ?_
      refine r_aload_n hC dX5_steps_172 0 rfl ?_
      refine r_getr hC fd_RX5_10 dC_0 rfl dX5_steps_173 ?_
      refine r_getr hC fd_RX5_103 dC_1 rfl dX5_steps_176 ?_
      refine r_iload_n hC dX5_steps_179 2 rfl ?_
      obtain ⟨g15, hf⟩ := og_in hf
      refine r_iald hC dC_3 g15 dX5_steps_180 ?_
      refine r_iload hC dX5_steps_181 9 rfl ?_
      obtain ⟨r16, er16, hf⟩ := ob_some hf
      refine r_cvv (As := [.int v2, .int (u.1 3 (Int32.toNatClampNeg v2)), .int v11]) (rest := []) hC (c_X1_tell isR_21 er16) yv_X1_tell ml_RX5_254 dC_21 ⟨by decide, by decide, rfl, rfl⟩ rfl rfl (Nat.le_of_ble_eq_true rfl) dX5_steps_183 ?_
      exact t_X5_steps_J186 hC hrec  r16 v9 v11 o hf hk
    · have hf := ite_t c14 hf
      refine r_aload_n hC dX5_steps_145 0 rfl ?_
      refine r_getr hC fd_RX5_19 dC_0 rfl dX5_steps_146 ?_
      refine r_iload_n hC dX5_steps_149 2 rfl ?_
      refine r_iload hC dX5_steps_150 9 rfl ?_
      refine r_aload_n hC dX5_steps_152 0 rfl ?_
      refine r_getr hC fd_RX5_10 dC_0 rfl dX5_steps_153 ?_
      refine r_getr hC fd_RX5_106 dC_1 rfl dX5_steps_156 ?_
      refine r_iload_n hC dX5_steps_159 2 rfl ?_
      obtain ⟨g20, hf⟩ := og_in hf
      refine r_iald hC dC_4 g20 dX5_steps_160 ?_
      obtain ⟨r21, er21, hf⟩ := ob_some hf
      refine r_cvv (As := [.int v2, .int v11, .int (u.1 4 (Int32.toNatClampNeg v2))]) (rest := []) hC (c_X1_tell isR_21 er21) yv_X1_tell ml_RX5_254 dC_21 ⟨by decide, by decide, rfl, rfl⟩ rfl rfl (Nat.le_of_ble_eq_true rfl) dX5_steps_161 ?_
      refine r_goto (tgt := 186) hC dX5_steps_164 (by decide) ?_
      exact t_X5_steps_J186 hC hrec  r21 v9 v11 o hf hk
set_option maxHeartbeats 4000000 in
set_option maxRecDepth 100000 in
theorem t_X5_steps_L133 {l : Launch} {G : zG} {X : zX} {K : Option Value → zS → Prop} (hC : zC G X cX5_steps 12 RX5 (some .int)) {N : Nat} {v1 : Int32} {v2 : Int32} {v3 : Int32} {v5 : Int32} {v6 : Int32} {v7 : Int32} {v10 : Int32} : ∀ (n : Nat) (u : zS) (v9 : Int32) (v11 : Int32) (o : Int32 × zS), f_X5_steps_L133 N v1 v2 v3 v5 v6 v7 v10 n u v9 v11 = some o → zW dscC l rm_X5_steps G X K o.2 218 [(9, .int o.1)] [] → zW dscC l rm_X5_steps G X K u 133 [(0, .ref (G.1 0)), (1, .int v1), (2, .int v2), (3, .int v3), (5, .int v5), (6, .int v6), (7, .int v7), (9, .int v9), (10, .int v10), (11, .int v11)] [] := by
  intro n
  induction n with
  | zero => intro u v9 v11 o hf; cases hf
  | succ n ih => intro u v9 v11 o hf hk; exact t_X5_steps_L133_B hC (rec := f_X5_steps_L133 N v1 v2 v3 v5 v6 v7 v10 n) ih u v9 v11 o hf hk
set_option maxHeartbeats 4000000 in
set_option maxRecDepth 100000 in
theorem t_X5_steps_J128 {l : Launch} {G : zG} {X : zX} {K : Option Value → zS → Prop} (hC : zC G X cX5_steps 12 RX5 (some .int)) {N : Nat} : ∀ (u : zS) (v1 : Int32) (v2 : Int32) (v3 : Int32) (v5 : Int32) (v6 : Int32) (v7 : Int32) (v9 : Int32) (s0 : Int32) (o : Int32 × zS), f_X5_steps_J128 N u v1 v2 v3 v5 v6 v7 v9 s0 = some o → K (some (.int o.1)) o.2 → zW dscC l rm_X5_steps G X K u 128 [(0, .ref (G.1 0)), (1, .int v1), (2, .int v2), (3, .int v3), (5, .int v5), (6, .int v6), (7, .int v7), (9, .int v9)] [.int s0] := by
  intro u v1 v2 v3 v5 v6 v7 v9 s0 o hf hk
  unfold f_X5_steps_J128 at hf
  refine r_istore (lv' := [(10, .int s0), (0, .ref (G.1 0)), (1, .int v1), (2, .int v2), (3, .int v3), (5, .int v5), (6, .int v6), (7, .int v7), (9, .int v9)]) hC dX5_steps_128 (by decide) rfl ?_
  refine r_iconst (v := 0) hC dX5_steps_130 (by decide) ?_
  refine r_istore (lv' := [(11, .int 0), (10, .int s0), (0, .ref (G.1 0)), (1, .int v1), (2, .int v2), (3, .int v3), (5, .int v5), (6, .int v6), (7, .int v7), (9, .int v9)]) hC dX5_steps_131 (by decide) rfl ?_
  refine r_loc [2, 3, 4, 5, 6, 7, 8, 9, 1, 0] rfl ?_
  obtain ⟨q22, eq22, hf⟩ := ob_some hf
  refine t_X5_steps_L133 hC N u v9 0 q22 eq22 ?_
  refine r_iload hC dX5_steps_218 0 rfl ?_
  have hf := Option.some.inj hf
  subst hf
  exact r_iret hC dX5_steps_220 hk
set_option maxHeartbeats 4000000 in
set_option maxRecDepth 100000 in
theorem t_X5_steps {l : Launch} {G : zG} {X : zX} {K : Option Value → zS → Prop} (hC : zC G X cX5_steps 12 RX5 (some .int)) {N : Nat} {u : zS} {v1 : Int32} {v2 : Int32} {v3 : Int32} {v4 : Int32} {v5 : Int32} {v6 : Int32} {v7 : Int32} (o : Int32 × zS) (hf : f_X5_steps N u v1 v2 v3 v4 v5 v6 v7 = some o) (hk : K (some (.int o.1)) o.2) : zW dscC l rm_X5_steps G X K u 0 [(0, .ref (G.1 0)), (1, .int v1), (2, .int v2), (3, .int v3), (4, .int v4), (5, .int v5), (6, .int v6), (7, .int v7)] [] := by
  unfold f_X5_steps at hf
  refine r_aload_n hC dX5_steps_0 0 rfl ?_
  refine r_getr hC fd_RX5_10 dC_0 rfl dX5_steps_1 ?_
  refine r_iload_n hC dX5_steps_4 1 rfl ?_
  refine r_cvi (As := [.int v1]) (rest := []) hC (c_X1_hasAngel isR_1) yv_X1_hasAngel ml_RX5_121 dC_1 ⟨by decide, by decide, rfl, rfl⟩ rfl rfl (Nat.le_of_ble_eq_true rfl) dX5_steps_5 ?_
  refine r_if_eq (tgt := 37) hC dX5_steps_8 (by decide) (fun c1 => ?_) (fun c1 => ?_)
  · have hf := ite_t c1 hf
    refine r_iconst (v := (-1)) hC dX5_steps_37 (by decide) ?_
    have hf := Option.some.inj hf
    subst hf
    exact r_iret hC dX5_steps_38 hk
  · have hf := ite_f c1 hf
    refine r_aload_n hC dX5_steps_11 0 rfl ?_
    refine r_getr hC fd_RX5_10 dC_0 rfl dX5_steps_12 ?_
    refine r_iload_n hC dX5_steps_15 2 rfl ?_
    refine r_cvi (As := [.int v2]) (rest := []) hC (c_X1_hasFigure isR_1) yv_X1_hasFigure ml_RX5_94 dC_1 ⟨by decide, by decide, rfl, rfl⟩ rfl rfl (Nat.le_of_ble_eq_true rfl) dX5_steps_16 ?_
    refine r_if_eq (tgt := 37) hC dX5_steps_19 (by decide) (fun c2 => ?_) (fun c2 => ?_)
    · have hf := ite_t c2 hf
      refine r_iconst (v := (-1)) hC dX5_steps_37 (by decide) ?_
      have hf := Option.some.inj hf
      subst hf
      exact r_iret hC dX5_steps_38 hk
    · have hf := ite_f c2 hf
      refine r_iload_n hC dX5_steps_22 3 rfl ?_
      refine r_csi (As := [.int v3]) (rest := []) hC c_X5_isSheet ys_X5_isSheet ml_RX5_232 ⟨by decide, by decide, rfl, rfl⟩ rfl rfl (Nat.le_of_ble_eq_true rfl) dX5_steps_23 ?_
      refine r_if_eq (tgt := 37) hC dX5_steps_26 (by decide) (fun c3 => ?_) (fun c3 => ?_)
      · have hf := ite_t c3 hf
        refine r_iconst (v := (-1)) hC dX5_steps_37 (by decide) ?_
        have hf := Option.some.inj hf
        subst hf
        exact r_iret hC dX5_steps_38 hk
      · have hf := ite_f c3 hf
        refine r_iload hC dX5_steps_29 4 rfl ?_
        refine r_csi (As := [.int v4]) (rest := []) hC c_X5_isLane ys_X5_isLane ml_RX5_235 ⟨by decide, by decide, rfl, rfl⟩ rfl rfl (Nat.le_of_ble_eq_true rfl) dX5_steps_31 ?_
        refine r_if_ne (tgt := 39) hC dX5_steps_34 (by decide) (fun c4 => ?_) (fun c4 => ?_)
        · have hf := ite_f c4 hf
          refine r_iload hC dX5_steps_39 6 rfl ?_
          refine r_iconst (v := 1) hC dX5_steps_41 (by decide) ?_
          refine r_bipush (v := 8) hC dX5_steps_42 (by decide) ?_
          refine r_csi (As := [.int v6, .int 1, .int 8]) (rest := []) hC c_X5_within ys_X5_within ml_RX5_83 ⟨by decide, by decide, rfl, rfl⟩ rfl rfl (Nat.le_of_ble_eq_true rfl) dX5_steps_44 ?_
          refine r_if_eq (tgt := 60) hC dX5_steps_47 (by decide) (fun c5 => ?_) (fun c5 => ?_)
          · have hf := ite_t c5 hf
            refine r_iconst (v := (-1)) hC dX5_steps_60 (by decide) ?_
            have hf := Option.some.inj hf
            subst hf
            exact r_iret hC dX5_steps_61 hk
          · have hf := ite_f c5 hf
            refine r_iload hC dX5_steps_50 7 rfl ?_
            refine r_iconst (v := 0) hC dX5_steps_52 (by decide) ?_
            refine r_iconst (v := 1) hC dX5_steps_53 (by decide) ?_
            refine r_csi (As := [.int v7, .int 0, .int 1]) (rest := []) hC c_X5_within ys_X5_within ml_RX5_83 ⟨by decide, by decide, rfl, rfl⟩ rfl rfl (Nat.le_of_ble_eq_true rfl) dX5_steps_54 ?_
            refine r_if_ne (tgt := 62) hC dX5_steps_57 (by decide) (fun c6 => ?_) (fun c6 => ?_)
            · have hf := ite_f c6 hf
              refine r_aload_n hC dX5_steps_62 0 rfl ?_
              refine r_getr hC fd_RX5_32 dC_0 rfl dX5_steps_63 ?_
              refine r_iload_n hC dX5_steps_66 3 rfl ?_
              refine r_iload hC dX5_steps_67 4 rfl ?_
              refine r_iload hC dX5_steps_69 5 rfl ?_
              refine r_iload hC dX5_steps_71 6 rfl ?_
              obtain ⟨r7, er7, hf⟩ := ob_some hf
              refine r_cvi (As := [.int v3, .int v4, .int v5, .int v6]) (rest := []) hC (c_X3_refused er7) yv_X3_refused ml_RX5_238 dC_33 ⟨by decide, by decide, rfl, rfl⟩ rfl rfl (Nat.le_of_ble_eq_true rfl) dX5_steps_73 ?_
              refine r_istore (lv' := [(8, .int r7), (0, .ref (G.1 0)), (1, .int v1), (2, .int v2), (3, .int v3), (4, .int v4), (5, .int v5), (6, .int v6), (7, .int v7)]) hC dX5_steps_76 (by decide) rfl ?_
              refine r_iload hC dX5_steps_78 0 rfl ?_
              refine r_if_ge (tgt := 86) hC dX5_steps_80 (by decide) (fun c8 => ?_) (fun c8 => ?_)
              · have hf := ite_t c8 hf
                refine r_aload_n hC dX5_steps_86 1 rfl ?_
                refine r_getr hC fd_RX5_10 dC_0 rfl dX5_steps_87 ?_
                refine r_getr hC fd_RX5_124 dC_1 rfl dX5_steps_90 ?_
                refine r_iload_n hC dX5_steps_93 2 rfl ?_
                obtain ⟨g9, hf⟩ := og_in hf
                refine r_iald hC dC_2 g9 dX5_steps_94 ?_
                refine r_bipush (v := (-4)) hC dX5_steps_95 (by decide) ?_
                refine r_icmp_ne (tgt := 103) hC dX5_steps_97 (by decide) (fun c10 => ?_) (fun c10 => ?_)
                · have hf := ite_f c10 hf
                  refine r_aload_n hC dX5_steps_103 1 rfl ?_
                  refine r_getr hC fd_RX5_19 dC_0 rfl dX5_steps_104 ?_
                  refine r_aload_n hC dX5_steps_107 1 rfl ?_
                  refine r_getr hC fd_RX5_10 dC_0 rfl dX5_steps_108 ?_
                  obtain ⟨r11, er11⟩ : ∃ z, z = f_X1_becomeLike 21 1 u := ⟨_, rfl⟩
                  have hf := olet_at er11 hf
                  refine r_cvv (As := [.ref (G.1 1)]) (rest := []) hC (c_X1_becomeLike isR_21 isR_1 (r := r11) er11.symm) yv_X1_becomeLike ml_RX5_150 dC_21 ⟨by decide, by decide, rfl, rfl⟩ rfl rfl (Nat.le_of_ble_eq_true rfl) dX5_steps_111 ?_
                  refine r_iconst (v := 0) hC dX5_steps_114 (by decide) ?_
                  refine r_istore (lv' := [(9, .int 0), (8, .int r7), (0, .ref (G.1 0)), (1, .int v1), (2, .int v2), (3, .int v3), (4, .int v4), (5, .int v5), (6, .int v6), (7, .int v7)]) hC dX5_steps_115 (by decide) rfl ?_
                  refine r_iload hC dX5_steps_117 9 rfl ?_
                  refine r_if_ne (tgt := 126) hC dX5_steps_119 (by decide) (fun c12 => ?_) (fun c12 => ?_)
                  · have hf := ite_f c12 hf
                    refine r_bipush (v := 8) hC dX5_steps_126 (by decide) ?_
                    refine r_loc [2, 3, 4, 5, 7, 8, 9, 0] rfl ?_
                    exact t_X5_steps_J128 hC  r11 v1 v2 v3 v5 v6 v7 0 8 o hf hk
                  · have hf := ite_t c12 hf
                    refine r_iconst (v := 5) hC dX5_steps_122 (by decide) ?_
                    refine r_goto (tgt := 128) hC dX5_steps_123 (by decide) ?_
                    refine r_loc [2, 3, 4, 5, 7, 8, 9, 0] rfl ?_
                    exact t_X5_steps_J128 hC  r11 v1 v2 v3 v5 v6 v7 0 5 o hf hk
                · have hf := ite_t c10 hf
                  refine r_bipush (v := (-2)) hC dX5_steps_100 (by decide) ?_
                  have hf := Option.some.inj hf
                  subst hf
                  exact r_iret hC dX5_steps_102 hk
              · have hf := ite_f c8 hf
                refine r_iload hC dX5_steps_83 0 rfl ?_
                have hf := Option.some.inj hf
                subst hf
                exact r_iret hC dX5_steps_85 hk
            · have hf := ite_t c6 hf
              refine r_iconst (v := (-1)) hC dX5_steps_60 (by decide) ?_
              have hf := Option.some.inj hf
              subst hf
              exact r_iret hC dX5_steps_61 hk
        · have hf := ite_t c4 hf
          refine r_iconst (v := (-1)) hC dX5_steps_37 (by decide) ?_
          have hf := Option.some.inj hf
          subst hf
          exact r_iret hC dX5_steps_38 hk
set_option maxHeartbeats 4000000 in
set_option maxRecDepth 100000 in
theorem c_X5_steps {l : Launch} {G : zG} {N : Nat} {u : zS} {v1 : Int32} {v2 : Int32} {v3 : Int32} {v4 : Int32} {v5 : Int32} {v6 : Int32} {v7 : Int32} {r : Int32 × zS} (hf : f_X5_steps N u v1 v2 v3 v4 v5 v6 v7 = some r) : zM l dscC yX5_steps cX5_steps 12 (some .int) rm_X5_steps G [.ref (G.1 0), .int v1, .int v2, .int v3, .int v4, .int v5, .int v6, .int v7] u (some (.int r.1)) r.2 := zM.of (by decide) (Nat.le_of_ble_eq_true rfl) (fun X hC => t_X5_steps hC r hf ⟨rfl, rfl⟩)
set_option maxHeartbeats 4000000 in
set_option maxRecDepth 100000 in
theorem t_X5_film_L75_B {l : Launch} {G : zG} {X : zX} {K : Option Value → zS → Prop} (hC : zC G X cX5_film 9 RX5 (some .int)) {N : Nat} {v2 : Int32} {v3 : Int32} {v5 : Int32} {rec : zS → Int32 → Int32 → Option (zS)} (hrec : ∀ (u : zS) (v7 : Int32) (v8 : Int32) (o : zS), rec u v7 v8 = some o → zW dscC l rm_X5_film G X K o 124 [(2, .int v2)] [] → zW dscC l rm_X5_film G X K u 75 [(0, .ref (G.1 0)), (2, .int v2), (3, .int v3), (5, .int v5), (7, .int v7), (8, .int v8)] []) : ∀ (u : zS) (v7 : Int32) (v8 : Int32) (o : zS), f_X5_film_L75_B N v2 v3 v5 rec u v7 v8 = some o → zW dscC l rm_X5_film G X K o 124 [(2, .int v2)] [] → zW dscC l rm_X5_film G X K u 75 [(0, .ref (G.1 0)), (2, .int v2), (3, .int v3), (5, .int v5), (7, .int v7), (8, .int v8)] [] := by
  intro u v7 v8 o hf hk
  unfold f_X5_film_L75_B at hf
  refine r_iload hC dX5_film_75 5 rfl ?_
  refine r_iload_n hC dX5_film_77 1 rfl ?_
  refine r_icmp_ge (tgt := 124) hC dX5_film_78 (by decide) (fun c9 => ?_) (fun c9 => ?_)
  · have hf := ite_t c9 hf
    have hf := Option.some.inj hf
    subst hf
    refine r_loc [1] rfl ?_
    exact hk
  · have hf := ite_f c9 hf
    refine r_aload_n hC dX5_film_81 0 rfl ?_
    refine r_getr hC fd_RX5_10 dC_0 rfl dX5_film_82 ?_
    refine r_iload hC dX5_film_85 4 rfl ?_
    refine r_aload_n hC dX5_film_87 0 rfl ?_
    refine r_getr hC fd_RX5_10 dC_0 rfl dX5_film_88 ?_
    refine r_geti hC fd_RX5_154 dC_1 rfl dX5_film_91 ?_
    refine r_iload hC dX5_film_94 5 rfl ?_
    refine r_iadd hC dX5_film_96 ?_
    obtain ⟨r10, er10, hf⟩ := ob_some hf
    refine r_cvi (As := [.int v7, .int ((u.1 1 9) + v8)]) (rest := []) hC (c_X1_goesOn isR_1 er10) yv_X1_goesOn ml_RX5_203 dC_1 ⟨by decide, by decide, rfl, rfl⟩ rfl rfl (Nat.le_of_ble_eq_true rfl) dX5_film_97 ?_
    refine r_istore (lv' := [(7, .int r10), (0, .ref (G.1 0)), (2, .int v2), (3, .int v3), (5, .int v5), (8, .int v8)]) hC dX5_film_100 (by decide) rfl ?_
    refine r_aload_n hC dX5_film_102 1 rfl ?_
    refine r_getr hC fd_RX5_32 dC_0 rfl dX5_film_103 ?_
    refine r_iload_n hC dX5_film_106 3 rfl ?_
    refine r_iload hC dX5_film_107 4 rfl ?_
    refine r_iload hC dX5_film_109 5 rfl ?_
    refine r_iadd hC dX5_film_111 ?_
    refine r_iload hC dX5_film_112 0 rfl ?_
    refine r_i2l hC dX5_film_114 ?_
    obtain ⟨r11, er11, hf⟩ := ob_some hf
    refine r_cvv (As := [.int v3, .int (v5 + v8), .long (Int32.toInt64 r10)]) (rest := []) hC (c_X3_put er11) yv_X3_put ml_RX5_262 dC_33 ⟨by decide, by decide, rfl, rfl⟩ rfl rfl (Nat.le_of_ble_eq_true rfl) dX5_film_115 ?_
    refine r_iinc (v := 1) (lv' := [(8, .int (v8 + 1)), (7, .int r10), (0, .ref (G.1 0)), (2, .int v2), (3, .int v3), (5, .int v5)]) hC dX5_film_118 5 rfl (by decide) (by decide) rfl ?_
    refine r_goto (tgt := 75) hC dX5_film_121 (by decide) ?_
    refine r_loc [2, 3, 4, 5, 1, 0] rfl ?_
    exact hrec r11 r10 (v8 + 1) o hf hk
set_option maxHeartbeats 4000000 in
set_option maxRecDepth 100000 in
theorem t_X5_film_L75 {l : Launch} {G : zG} {X : zX} {K : Option Value → zS → Prop} (hC : zC G X cX5_film 9 RX5 (some .int)) {N : Nat} {v2 : Int32} {v3 : Int32} {v5 : Int32} : ∀ (n : Nat) (u : zS) (v7 : Int32) (v8 : Int32) (o : zS), f_X5_film_L75 N v2 v3 v5 n u v7 v8 = some o → zW dscC l rm_X5_film G X K o 124 [(2, .int v2)] [] → zW dscC l rm_X5_film G X K u 75 [(0, .ref (G.1 0)), (2, .int v2), (3, .int v3), (5, .int v5), (7, .int v7), (8, .int v8)] [] := by
  intro n
  induction n with
  | zero => intro u v7 v8 o hf; cases hf
  | succ n ih => intro u v7 v8 o hf hk; exact t_X5_film_L75_B hC (rec := f_X5_film_L75 N v2 v3 v5 n) ih u v7 v8 o hf hk
set_option maxHeartbeats 4000000 in
set_option maxRecDepth 100000 in
theorem t_X5_film {l : Launch} {G : zG} {X : zX} {K : Option Value → zS → Prop} (hC : zC G X cX5_film 9 RX5 (some .int)) {N : Nat} {u : zS} {v1 : Int32} {v2 : Int32} {v3 : Int32} {v4 : Int32} {v5 : Int32} (o : Int32 × zS) (hf : f_X5_film N u v1 v2 v3 v4 v5 = some o) (hk : K (some (.int o.1)) o.2) : zW dscC l rm_X5_film G X K u 0 [(0, .ref (G.1 0)), (1, .int v1), (2, .int v2), (3, .int v3), (4, .int v4), (5, .int v5)] [] := by
  unfold f_X5_film at hf
  refine r_aload_n hC dX5_film_0 0 rfl ?_
  refine r_getr hC fd_RX5_10 dC_0 rfl dX5_film_1 ?_
  refine r_iload_n hC dX5_film_4 1 rfl ?_
  refine r_cvi (As := [.int v1]) (rest := []) hC (c_X1_hasAngel isR_1) yv_X1_hasAngel ml_RX5_121 dC_1 ⟨by decide, by decide, rfl, rfl⟩ rfl rfl (Nat.le_of_ble_eq_true rfl) dX5_film_5 ?_
  refine r_if_eq (tgt := 36) hC dX5_film_8 (by decide) (fun c1 => ?_) (fun c1 => ?_)
  · have hf := ite_t c1 hf
    refine r_iconst (v := (-1)) hC dX5_film_36 (by decide) ?_
    have hf := Option.some.inj hf
    subst hf
    exact r_iret hC dX5_film_37 hk
  · have hf := ite_f c1 hf
    refine r_iload_n hC dX5_film_11 2 rfl ?_
    refine r_iconst (v := 1) hC dX5_film_12 (by decide) ?_
    refine r_bipush (v := 24) hC dX5_film_13 (by decide) ?_
    refine r_csi (As := [.int v2, .int 1, .int 24]) (rest := []) hC c_X5_within ys_X5_within ml_RX5_83 ⟨by decide, by decide, rfl, rfl⟩ rfl rfl (Nat.le_of_ble_eq_true rfl) dX5_film_15 ?_
    refine r_if_eq (tgt := 36) hC dX5_film_18 (by decide) (fun c2 => ?_) (fun c2 => ?_)
    · have hf := ite_t c2 hf
      refine r_iconst (v := (-1)) hC dX5_film_36 (by decide) ?_
      have hf := Option.some.inj hf
      subst hf
      exact r_iret hC dX5_film_37 hk
    · have hf := ite_f c2 hf
      refine r_iload_n hC dX5_film_21 3 rfl ?_
      refine r_csi (As := [.int v3]) (rest := []) hC c_X5_isSheet ys_X5_isSheet ml_RX5_232 ⟨by decide, by decide, rfl, rfl⟩ rfl rfl (Nat.le_of_ble_eq_true rfl) dX5_film_22 ?_
      refine r_if_eq (tgt := 36) hC dX5_film_25 (by decide) (fun c3 => ?_) (fun c3 => ?_)
      · have hf := ite_t c3 hf
        refine r_iconst (v := (-1)) hC dX5_film_36 (by decide) ?_
        have hf := Option.some.inj hf
        subst hf
        exact r_iret hC dX5_film_37 hk
      · have hf := ite_f c3 hf
        refine r_iload hC dX5_film_28 4 rfl ?_
        refine r_csi (As := [.int v4]) (rest := []) hC c_X5_isLane ys_X5_isLane ml_RX5_235 ⟨by decide, by decide, rfl, rfl⟩ rfl rfl (Nat.le_of_ble_eq_true rfl) dX5_film_30 ?_
        refine r_if_ne (tgt := 38) hC dX5_film_33 (by decide) (fun c4 => ?_) (fun c4 => ?_)
        · have hf := ite_f c4 hf
          refine r_aload_n hC dX5_film_38 0 rfl ?_
          refine r_getr hC fd_RX5_32 dC_0 rfl dX5_film_39 ?_
          refine r_iload_n hC dX5_film_42 3 rfl ?_
          refine r_iload hC dX5_film_43 4 rfl ?_
          refine r_iload hC dX5_film_45 5 rfl ?_
          refine r_iload_n hC dX5_film_47 2 rfl ?_
          obtain ⟨r5, er5, hf⟩ := ob_some hf
          refine r_cvi (As := [.int v3, .int v4, .int v5, .int v2]) (rest := []) hC (c_X3_refused er5) yv_X3_refused ml_RX5_238 dC_33 ⟨by decide, by decide, rfl, rfl⟩ rfl rfl (Nat.le_of_ble_eq_true rfl) dX5_film_48 ?_
          refine r_istore (lv' := [(6, .int r5), (0, .ref (G.1 0)), (1, .int v1), (2, .int v2), (3, .int v3), (4, .int v4), (5, .int v5)]) hC dX5_film_51 (by decide) rfl ?_
          refine r_iload hC dX5_film_53 0 rfl ?_
          refine r_if_ge (tgt := 61) hC dX5_film_55 (by decide) (fun c6 => ?_) (fun c6 => ?_)
          · have hf := ite_t c6 hf
            refine r_aload_n hC dX5_film_61 1 rfl ?_
            refine r_getr hC fd_RX5_10 dC_0 rfl dX5_film_62 ?_
            refine r_getr hC fd_RX5_124 dC_1 rfl dX5_film_65 ?_
            refine r_iload_n hC dX5_film_68 2 rfl ?_
            obtain ⟨g7, hf⟩ := og_in hf
            refine r_iald hC dC_2 g7 dX5_film_69 ?_
            refine r_topi (fun w8 ew8 => ?_)
            have hf := olet_at ew8 hf
            refine r_istore (lv' := [(7, .int w8), (6, .int r5), (0, .ref (G.1 0)), (1, .int v1), (2, .int v2), (3, .int v3), (4, .int v4), (5, .int v5)]) hC dX5_film_70 (by decide) rfl ?_
            refine r_iconst (v := 0) hC dX5_film_72 (by decide) ?_
            refine r_istore (lv' := [(8, .int 0), (7, .int w8), (6, .int r5), (0, .ref (G.1 0)), (1, .int v1), (2, .int v2), (3, .int v3), (4, .int v4), (5, .int v5)]) hC dX5_film_73 (by decide) rfl ?_
            refine r_loc [3, 5, 6, 8, 1, 0] rfl ?_
            obtain ⟨q12, eq12, hf⟩ := ob_some hf
            refine t_X5_film_L75 hC N u w8 0 q12 eq12 ?_
            refine r_iload_n hC dX5_film_124 0 rfl ?_
            have hf := Option.some.inj hf
            subst hf
            exact r_iret hC dX5_film_125 hk
          · have hf := ite_f c6 hf
            refine r_iload hC dX5_film_58 0 rfl ?_
            have hf := Option.some.inj hf
            subst hf
            exact r_iret hC dX5_film_60 hk
        · have hf := ite_t c4 hf
          refine r_iconst (v := (-1)) hC dX5_film_36 (by decide) ?_
          have hf := Option.some.inj hf
          subst hf
          exact r_iret hC dX5_film_37 hk
set_option maxHeartbeats 4000000 in
set_option maxRecDepth 100000 in
theorem c_X5_film {l : Launch} {G : zG} {N : Nat} {u : zS} {v1 : Int32} {v2 : Int32} {v3 : Int32} {v4 : Int32} {v5 : Int32} {r : Int32 × zS} (hf : f_X5_film N u v1 v2 v3 v4 v5 = some r) : zM l dscC yX5_film cX5_film 9 (some .int) rm_X5_film G [.ref (G.1 0), .int v1, .int v2, .int v3, .int v4, .int v5] u (some (.int r.1)) r.2 := zM.of (by decide) (Nat.le_of_ble_eq_true rfl) (fun X hC => t_X5_film hC r hf ⟨rfl, rfl⟩)
set_option maxHeartbeats 4000000 in
set_option maxRecDepth 100000 in
theorem t_X5_sheet {l : Launch} {G : zG} {X : zX} {K : Option Value → zS → Prop} (hC : zC G X cX5_sheet 4 RX5 (some .int)) {N : Nat} {u : zS} {v1 : Int32} {v2 : Int32} {v3 : Int32} (o : Int32 × zS) (hf : f_X5_sheet N u v1 v2 v3 = some o) (hk : K (some (.int o.1)) o.2) : zW dscC l rm_X5_sheet G X K u 0 [(0, .ref (G.1 0)), (1, .int v1), (2, .int v2), (3, .int v3)] [] := by
  unfold f_X5_sheet at hf
  refine r_iload_n hC dX5_sheet_0 1 rfl ?_
  refine r_csi (As := [.int v1]) (rest := []) hC c_X5_isSheet ys_X5_isSheet ml_RX5_232 ⟨by decide, by decide, rfl, rfl⟩ rfl rfl (Nat.le_of_ble_eq_true rfl) dX5_sheet_1 ?_
  refine r_if_eq (tgt := 20) hC dX5_sheet_4 (by decide) (fun c1 => ?_) (fun c1 => ?_)
  · have hf := ite_t c1 hf
    refine r_iconst (v := (-1)) hC dX5_sheet_20 (by decide) ?_
    have hf := Option.some.inj hf
    subst hf
    exact r_iret hC dX5_sheet_21 hk
  · have hf := ite_f c1 hf
    refine r_iload_n hC dX5_sheet_7 2 rfl ?_
    refine r_csi (As := [.int v2]) (rest := []) hC c_X5_isLane ys_X5_isLane ml_RX5_235 ⟨by decide, by decide, rfl, rfl⟩ rfl rfl (Nat.le_of_ble_eq_true rfl) dX5_sheet_8 ?_
    refine r_if_eq (tgt := 20) hC dX5_sheet_11 (by decide) (fun c2 => ?_) (fun c2 => ?_)
    · have hf := ite_t c2 hf
      refine r_iconst (v := (-1)) hC dX5_sheet_20 (by decide) ?_
      have hf := Option.some.inj hf
      subst hf
      exact r_iret hC dX5_sheet_21 hk
    · have hf := ite_f c2 hf
      refine r_iload_n hC dX5_sheet_14 3 rfl ?_
      refine r_bipush (v := 24) hC dX5_sheet_15 (by decide) ?_
      refine r_icmp_le (tgt := 22) hC dX5_sheet_17 (by decide) (fun c3 => ?_) (fun c3 => ?_)
      · have hf := ite_t c3 hf
        refine r_iload_n hC dX5_sheet_22 3 rfl ?_
        refine r_if_ge (tgt := 29) hC dX5_sheet_23 (by decide) (fun c4 => ?_) (fun c4 => ?_)
        · have hf := ite_t c4 hf
          refine r_aload_n hC dX5_sheet_29 0 rfl ?_
          refine r_getr hC fd_RX5_32 dC_0 rfl dX5_sheet_30 ?_
          refine r_iload_n hC dX5_sheet_33 1 rfl ?_
          refine r_iload_n hC dX5_sheet_34 2 rfl ?_
          refine r_iload_n hC dX5_sheet_35 3 rfl ?_
          obtain ⟨r5, er5, hf⟩ := ob_some hf
          refine r_cvv (As := [.int v1, .int v2, .int v3]) (rest := []) hC (c_X3_renew er5) yv_X3_renew ml_RX5_265 dC_33 ⟨by decide, by decide, rfl, rfl⟩ rfl rfl (Nat.le_of_ble_eq_true rfl) dX5_sheet_36 ?_
          refine r_iload_n hC dX5_sheet_39 3 rfl ?_
          have hf := Option.some.inj hf
          subst hf
          exact r_iret hC dX5_sheet_40 hk
        · have hf := ite_f c4 hf
          refine r_bipush (v := (-14)) hC dX5_sheet_26 (by decide) ?_
          have hf := Option.some.inj hf
          subst hf
          exact r_iret hC dX5_sheet_28 hk
      · have hf := ite_f c3 hf
        refine r_iconst (v := (-1)) hC dX5_sheet_20 (by decide) ?_
        have hf := Option.some.inj hf
        subst hf
        exact r_iret hC dX5_sheet_21 hk
set_option maxHeartbeats 4000000 in
set_option maxRecDepth 100000 in
theorem c_X5_sheet {l : Launch} {G : zG} {N : Nat} {u : zS} {v1 : Int32} {v2 : Int32} {v3 : Int32} {r : Int32 × zS} (hf : f_X5_sheet N u v1 v2 v3 = some r) : zM l dscC yX5_sheet cX5_sheet 4 (some .int) rm_X5_sheet G [.ref (G.1 0), .int v1, .int v2, .int v3] u (some (.int r.1)) r.2 := zM.of (by decide) (Nat.le_of_ble_eq_true rfl) (fun X hC => t_X5_sheet hC r hf ⟨rfl, rfl⟩)
set_option maxHeartbeats 4000000 in
set_option maxRecDepth 100000 in
theorem t_X5_drop {l : Launch} {G : zG} {X : zX} {K : Option Value → zS → Prop} (hC : zC G X cX5_drop 2 RX5 (some .int)) {u : zS} {v1 : Int32} (o : Int32 × zS) (hf : f_X5_drop u v1 = some o) (hk : K (some (.int o.1)) o.2) : zW dscC l rm_X5_drop G X K u 0 [(0, .ref (G.1 0)), (1, .int v1)] [] := by
  unfold f_X5_drop at hf
  refine r_iload_n hC dX5_drop_0 1 rfl ?_
  refine r_csi (As := [.int v1]) (rest := []) hC c_X5_isSheet ys_X5_isSheet ml_RX5_232 ⟨by decide, by decide, rfl, rfl⟩ rfl rfl (Nat.le_of_ble_eq_true rfl) dX5_drop_1 ?_
  refine r_if_ne (tgt := 9) hC dX5_drop_4 (by decide) (fun c1 => ?_) (fun c1 => ?_)
  · have hf := ite_f c1 hf
    refine r_aload_n hC dX5_drop_9 0 rfl ?_
    refine r_getr hC fd_RX5_32 dC_0 rfl dX5_drop_10 ?_
    refine r_iload_n hC dX5_drop_13 1 rfl ?_
    obtain ⟨r2, er2, hf⟩ := ob_some hf
    refine r_cvi (As := [.int v1]) (rest := []) hC (c_X3_isThere er2) yv_X3_isThere ml_RX5_268 dC_33 ⟨by decide, by decide, rfl, rfl⟩ rfl rfl (Nat.le_of_ble_eq_true rfl) dX5_drop_14 ?_
    refine r_if_ne (tgt := 23) hC dX5_drop_17 (by decide) (fun c3 => ?_) (fun c3 => ?_)
    · have hf := ite_f c3 hf
      refine r_aload_n hC dX5_drop_23 0 rfl ?_
      refine r_getr hC fd_RX5_32 dC_0 rfl dX5_drop_24 ?_
      refine r_iload_n hC dX5_drop_27 1 rfl ?_
      obtain ⟨r4, er4, hf⟩ := ob_some hf
      refine r_cvi (As := [.int v1]) (rest := []) hC (c_X3_takeAway er4) yv_X3_takeAway ml_RX5_271 dC_33 ⟨by decide, by decide, rfl, rfl⟩ rfl rfl (Nat.le_of_ble_eq_true rfl) dX5_drop_28 ?_
      have hf := Option.some.inj hf
      subst hf
      exact r_iret hC dX5_drop_31 hk
    · have hf := ite_t c3 hf
      refine r_bipush (v := (-11)) hC dX5_drop_20 (by decide) ?_
      have hf := Option.some.inj hf
      subst hf
      exact r_iret hC dX5_drop_22 hk
  · have hf := ite_t c1 hf
    refine r_iconst (v := (-1)) hC dX5_drop_7 (by decide) ?_
    have hf := Option.some.inj hf
    subst hf
    exact r_iret hC dX5_drop_8 hk
set_option maxHeartbeats 4000000 in
set_option maxRecDepth 100000 in
theorem c_X5_drop {l : Launch} {G : zG} {u : zS} {v1 : Int32} {r : Int32 × zS} (hf : f_X5_drop u v1 = some r) : zM l dscC yX5_drop cX5_drop 2 (some .int) rm_X5_drop G [.ref (G.1 0), .int v1] u (some (.int r.1)) r.2 := zM.of (by decide) (Nat.le_of_ble_eq_true rfl) (fun X hC => t_X5_drop hC r hf ⟨rfl, rfl⟩)
set_option maxHeartbeats 4000000 in
set_option maxRecDepth 100000 in
theorem t_X5_item {l : Launch} {G : zG} {X : zX} {K : Option Value → zS → Prop} (hC : zC G X cX5_item 7 RX5 (some .int)) {u : zS} {v1 : Int32} {v2 : Int32} {v3 : Int32} {v4 : Int64} (o : Int32 × zS) (hf : f_X5_item u v1 v2 v3 v4 = some o) (hk : K (some (.int o.1)) o.2) : zW dscC l rm_X5_item G X K u 0 [(0, .ref (G.1 0)), (1, .int v1), (2, .int v2), (3, .int v3), (4, .long v4)] [] := by
  unfold f_X5_item at hf
  refine r_iload_n hC dX5_item_0 1 rfl ?_
  refine r_csi (As := [.int v1]) (rest := []) hC c_X5_isSheet ys_X5_isSheet ml_RX5_232 ⟨by decide, by decide, rfl, rfl⟩ rfl rfl (Nat.le_of_ble_eq_true rfl) dX5_item_1 ?_
  refine r_if_eq (tgt := 14) hC dX5_item_4 (by decide) (fun c1 => ?_) (fun c1 => ?_)
  · have hf := ite_t c1 hf
    refine r_iconst (v := (-1)) hC dX5_item_14 (by decide) ?_
    have hf := Option.some.inj hf
    subst hf
    exact r_iret hC dX5_item_15 hk
  · have hf := ite_f c1 hf
    refine r_iload_n hC dX5_item_7 2 rfl ?_
    refine r_csi (As := [.int v2]) (rest := []) hC c_X5_isLane ys_X5_isLane ml_RX5_235 ⟨by decide, by decide, rfl, rfl⟩ rfl rfl (Nat.le_of_ble_eq_true rfl) dX5_item_8 ?_
    refine r_if_ne (tgt := 16) hC dX5_item_11 (by decide) (fun c2 => ?_) (fun c2 => ?_)
    · have hf := ite_f c2 hf
      refine r_aload_n hC dX5_item_16 0 rfl ?_
      refine r_getr hC fd_RX5_32 dC_0 rfl dX5_item_17 ?_
      refine r_iload_n hC dX5_item_20 1 rfl ?_
      refine r_iload_n hC dX5_item_21 2 rfl ?_
      refine r_iload_n hC dX5_item_22 3 rfl ?_
      refine r_iconst (v := 1) hC dX5_item_23 (by decide) ?_
      obtain ⟨r3, er3, hf⟩ := ob_some hf
      refine r_cvi (As := [.int v1, .int v2, .int v3, .int 1]) (rest := []) hC (c_X3_refused er3) yv_X3_refused ml_RX5_238 dC_33 ⟨by decide, by decide, rfl, rfl⟩ rfl rfl (Nat.le_of_ble_eq_true rfl) dX5_item_24 ?_
      refine r_istore (lv' := [(6, .int r3), (0, .ref (G.1 0)), (1, .int v1), (2, .int v2), (3, .int v3), (4, .long v4)]) hC dX5_item_27 (by decide) rfl ?_
      refine r_iload hC dX5_item_29 0 rfl ?_
      refine r_if_ge (tgt := 37) hC dX5_item_31 (by decide) (fun c4 => ?_) (fun c4 => ?_)
      · have hf := ite_t c4 hf
        refine r_aload_n hC dX5_item_37 1 rfl ?_
        refine r_getr hC fd_RX5_32 dC_0 rfl dX5_item_38 ?_
        refine r_iload_n hC dX5_item_41 2 rfl ?_
        refine r_iload_n hC dX5_item_42 4 rfl ?_
        refine r_lload hC dX5_item_43 5 rfl ?_
        obtain ⟨r5, er5, hf⟩ := ob_some hf
        refine r_cvv (As := [.int v1, .int v3, .long v4]) (rest := []) hC (c_X3_put er5) yv_X3_put ml_RX5_262 dC_33 ⟨by decide, by decide, rfl, rfl⟩ rfl rfl (Nat.le_of_ble_eq_true rfl) dX5_item_45 ?_
        refine r_iconst (v := 1) hC dX5_item_48 (by decide) ?_
        have hf := Option.some.inj hf
        subst hf
        exact r_iret hC dX5_item_49 hk
      · have hf := ite_f c4 hf
        refine r_iload hC dX5_item_34 0 rfl ?_
        have hf := Option.some.inj hf
        subst hf
        exact r_iret hC dX5_item_36 hk
    · have hf := ite_t c2 hf
      refine r_iconst (v := (-1)) hC dX5_item_14 (by decide) ?_
      have hf := Option.some.inj hf
      subst hf
      exact r_iret hC dX5_item_15 hk
set_option maxHeartbeats 4000000 in
set_option maxRecDepth 100000 in
theorem c_X5_item {l : Launch} {G : zG} {u : zS} {v1 : Int32} {v2 : Int32} {v3 : Int32} {v4 : Int64} {r : Int32 × zS} (hf : f_X5_item u v1 v2 v3 v4 = some r) : zM l dscC yX5_item cX5_item 7 (some .int) rm_X5_item G [.ref (G.1 0), .int v1, .int v2, .int v3, .long v4] u (some (.int r.1)) r.2 := zM.of (by decide) (Nat.le_of_ble_eq_true rfl) (fun X hC => t_X5_item hC r hf ⟨rfl, rfl⟩)
set_option maxHeartbeats 4000000 in
set_option maxRecDepth 100000 in
theorem t_X5_copy {l : Launch} {G : zG} {X : zX} {K : Option Value → zS → Prop} (hC : zC G X cX5_copy 6 RX5 (some .int)) {u : zS} {v1 : Int32} {v2 : Int32} {v3 : Int32} {v4 : Int32} {v5 : Int32} (o : Int32 × zS) (hf : f_X5_copy u v1 v2 v3 v4 v5 = some o) (hk : K (some (.int o.1)) o.2) : zW dscC l rm_X5_copy G X K u 0 [(0, .ref (G.1 0)), (1, .int v1), (2, .int v2), (3, .int v3), (4, .int v4), (5, .int v5)] [] := by
  unfold f_X5_copy at hf
  refine r_iload_n hC dX5_copy_0 1 rfl ?_
  refine r_csi (As := [.int v1]) (rest := []) hC c_X5_isSheet ys_X5_isSheet ml_RX5_232 ⟨by decide, by decide, rfl, rfl⟩ rfl rfl (Nat.le_of_ble_eq_true rfl) dX5_copy_1 ?_
  refine r_if_eq (tgt := 14) hC dX5_copy_4 (by decide) (fun c1 => ?_) (fun c1 => ?_)
  · have hf := ite_t c1 hf
    refine r_iconst (v := (-1)) hC dX5_copy_14 (by decide) ?_
    have hf := Option.some.inj hf
    subst hf
    exact r_iret hC dX5_copy_15 hk
  · have hf := ite_f c1 hf
    refine r_iload_n hC dX5_copy_7 3 rfl ?_
    refine r_csi (As := [.int v3]) (rest := []) hC c_X5_isSheet ys_X5_isSheet ml_RX5_232 ⟨by decide, by decide, rfl, rfl⟩ rfl rfl (Nat.le_of_ble_eq_true rfl) dX5_copy_8 ?_
    refine r_if_ne (tgt := 16) hC dX5_copy_11 (by decide) (fun c2 => ?_) (fun c2 => ?_)
    · have hf := ite_f c2 hf
      refine r_aload_n hC dX5_copy_16 0 rfl ?_
      refine r_getr hC fd_RX5_32 dC_0 rfl dX5_copy_17 ?_
      refine r_iload_n hC dX5_copy_20 1 rfl ?_
      obtain ⟨r3, er3, hf⟩ := ob_some hf
      refine r_cvi (As := [.int v1]) (rest := []) hC (c_X3_isThere er3) yv_X3_isThere ml_RX5_268 dC_33 ⟨by decide, by decide, rfl, rfl⟩ rfl rfl (Nat.le_of_ble_eq_true rfl) dX5_copy_21 ?_
      refine r_if_eq (tgt := 38) hC dX5_copy_24 (by decide) (fun c4 => ?_) (fun c4 => ?_)
      · have hf := ite_t c4 hf
        refine r_bipush (v := (-11)) hC dX5_copy_38 (by decide) ?_
        have hf := Option.some.inj hf
        subst hf
        exact r_iret hC dX5_copy_40 hk
      · have hf := ite_f c4 hf
        refine r_aload_n hC dX5_copy_27 0 rfl ?_
        refine r_getr hC fd_RX5_32 dC_0 rfl dX5_copy_28 ?_
        refine r_iload_n hC dX5_copy_31 3 rfl ?_
        obtain ⟨r5, er5, hf⟩ := ob_some hf
        refine r_cvi (As := [.int v3]) (rest := []) hC (c_X3_isThere er5) yv_X3_isThere ml_RX5_268 dC_33 ⟨by decide, by decide, rfl, rfl⟩ rfl rfl (Nat.le_of_ble_eq_true rfl) dX5_copy_32 ?_
        refine r_if_ne (tgt := 41) hC dX5_copy_35 (by decide) (fun c6 => ?_) (fun c6 => ?_)
        · have hf := ite_f c6 hf
          refine r_aload_n hC dX5_copy_41 0 rfl ?_
          refine r_getr hC fd_RX5_32 dC_0 rfl dX5_copy_42 ?_
          refine r_getr hC fd_RX5_274 dC_33 rfl dX5_copy_45 ?_
          refine r_iload_n hC dX5_copy_48 1 rfl ?_
          obtain ⟨g7, hf⟩ := og_in hf
          refine r_iald hC dC_34 g7 dX5_copy_49 ?_
          refine r_aload_n hC dX5_copy_50 0 rfl ?_
          refine r_getr hC fd_RX5_32 dC_0 rfl dX5_copy_51 ?_
          refine r_getr hC fd_RX5_274 dC_33 rfl dX5_copy_54 ?_
          refine r_iload_n hC dX5_copy_57 3 rfl ?_
          obtain ⟨g8, hf⟩ := og_in hf
          refine r_iald hC dC_34 g8 dX5_copy_58 ?_
          refine r_icmp_eq (tgt := 65) hC dX5_copy_59 (by decide) (fun c9 => ?_) (fun c9 => ?_)
          · have hf := ite_t c9 hf
            refine r_aload_n hC dX5_copy_65 0 rfl ?_
            refine r_getr hC fd_RX5_32 dC_0 rfl dX5_copy_66 ?_
            refine r_iload_n hC dX5_copy_69 1 rfl ?_
            refine r_iload_n hC dX5_copy_70 2 rfl ?_
            refine r_iload hC dX5_copy_71 5 rfl ?_
            obtain ⟨r10, er10, hf⟩ := ob_some hf
            refine r_cvi (As := [.int v1, .int v2, .int v5]) (rest := []) hC (c_X3_hasItems er10) yv_X3_hasItems ml_RX5_277 dC_33 ⟨by decide, by decide, rfl, rfl⟩ rfl rfl (Nat.le_of_ble_eq_true rfl) dX5_copy_73 ?_
            refine r_if_eq (tgt := 94) hC dX5_copy_76 (by decide) (fun c11 => ?_) (fun c11 => ?_)
            · have hf := ite_t c11 hf
              refine r_bipush (v := (-13)) hC dX5_copy_94 (by decide) ?_
              have hf := Option.some.inj hf
              subst hf
              exact r_iret hC dX5_copy_96 hk
            · have hf := ite_f c11 hf
              refine r_aload_n hC dX5_copy_79 0 rfl ?_
              refine r_getr hC fd_RX5_32 dC_0 rfl dX5_copy_80 ?_
              refine r_iload_n hC dX5_copy_83 3 rfl ?_
              refine r_iload hC dX5_copy_84 4 rfl ?_
              refine r_iload hC dX5_copy_86 5 rfl ?_
              obtain ⟨r12, er12, hf⟩ := ob_some hf
              refine r_cvi (As := [.int v3, .int v4, .int v5]) (rest := []) hC (c_X3_hasItems er12) yv_X3_hasItems ml_RX5_277 dC_33 ⟨by decide, by decide, rfl, rfl⟩ rfl rfl (Nat.le_of_ble_eq_true rfl) dX5_copy_88 ?_
              refine r_if_ne (tgt := 97) hC dX5_copy_91 (by decide) (fun c13 => ?_) (fun c13 => ?_)
              · have hf := ite_f c13 hf
                refine r_aload_n hC dX5_copy_97 0 rfl ?_
                refine r_getr hC fd_RX5_32 dC_0 rfl dX5_copy_98 ?_
                refine r_iload_n hC dX5_copy_101 1 rfl ?_
                refine r_iload_n hC dX5_copy_102 2 rfl ?_
                refine r_iload_n hC dX5_copy_103 3 rfl ?_
                refine r_iload hC dX5_copy_104 4 rfl ?_
                refine r_iload hC dX5_copy_106 5 rfl ?_
                obtain ⟨r14, er14, hf⟩ := ob_some hf
                refine r_cvv (As := [.int v1, .int v2, .int v3, .int v4, .int v5]) (rest := []) hC (c_X3_carry er14) yv_X3_carry ml_RX5_280 dC_33 ⟨by decide, by decide, rfl, rfl⟩ rfl rfl (Nat.le_of_ble_eq_true rfl) dX5_copy_108 ?_
                refine r_iload hC dX5_copy_111 5 rfl ?_
                have hf := Option.some.inj hf
                subst hf
                exact r_iret hC dX5_copy_113 hk
              · have hf := ite_t c13 hf
                refine r_bipush (v := (-13)) hC dX5_copy_94 (by decide) ?_
                have hf := Option.some.inj hf
                subst hf
                exact r_iret hC dX5_copy_96 hk
          · have hf := ite_f c9 hf
            refine r_bipush (v := (-12)) hC dX5_copy_62 (by decide) ?_
            have hf := Option.some.inj hf
            subst hf
            exact r_iret hC dX5_copy_64 hk
        · have hf := ite_t c6 hf
          refine r_bipush (v := (-11)) hC dX5_copy_38 (by decide) ?_
          have hf := Option.some.inj hf
          subst hf
          exact r_iret hC dX5_copy_40 hk
    · have hf := ite_t c2 hf
      refine r_iconst (v := (-1)) hC dX5_copy_14 (by decide) ?_
      have hf := Option.some.inj hf
      subst hf
      exact r_iret hC dX5_copy_15 hk
set_option maxHeartbeats 4000000 in
set_option maxRecDepth 100000 in
theorem c_X5_copy {l : Launch} {G : zG} {u : zS} {v1 : Int32} {v2 : Int32} {v3 : Int32} {v4 : Int32} {v5 : Int32} {r : Int32 × zS} (hf : f_X5_copy u v1 v2 v3 v4 v5 = some r) : zM l dscC yX5_copy cX5_copy 6 (some .int) rm_X5_copy G [.ref (G.1 0), .int v1, .int v2, .int v3, .int v4, .int v5] u (some (.int r.1)) r.2 := zM.of (by decide) (Nat.le_of_ble_eq_true rfl) (fun X hC => t_X5_copy hC r hf ⟨rfl, rfl⟩)
