set_option maxHeartbeats 4000000 in
set_option maxRecDepth 100000 in
theorem t_X0_forget {l : Launch} {G : zG} {X : zX} {K : Option Value → zS → Prop} {b : Nat} (hC : zC G X cX0_forget 1 RX0 none) (hb : isR b) {u : zS} (o : zS) (hf : f_X0_forget b u = o) (hk : K none o) : zW dscC l rm_X0_forget G X K u 0 [(0, .ref (G.1 (b + 6)))] [] := by
  unfold f_X0_forget at hf
  refine r_aload_n hC dX0_forget_0 0 rfl ?_
  refine r_iconst (v := 0) hC dX0_forget_1 (by decide) ?_
  refine r_puti hC fp_RX0_21 (dR_6 hb) rfl dX0_forget_2 ?_
  refine r_tops (fun u1 eu1 => ?_)
  have hf := olet_at eu1 hf
  subst hf
  exact r_vret hC dX0_forget_5 hk
set_option maxHeartbeats 4000000 in
set_option maxRecDepth 100000 in
theorem c_X0_forget {l : Launch} {G : zG} {b : Nat} (hb : isR b) {u : zS} {r : zS} (hf : f_X0_forget b u = r) : zM l dscC yX0_forget cX0_forget 1 none rm_X0_forget G [.ref (G.1 (b + 6))] u none r := zM.of (by decide) (Nat.le_of_ble_eq_true rfl) (fun X hC => t_X0_forget hC hb r hf ⟨rfl, rfl⟩)
set_option maxHeartbeats 4000000 in
set_option maxRecDepth 100000 in
theorem t_X0_becomeLike {l : Launch} {G : zG} {X : zX} {K : Option Value → zS → Prop} {b : Nat} {e : Nat} (hC : zC G X cX0_becomeLike 2 RX0 none) (hb : isR b) (he : isR e) {u : zS} (o : zS) (hf : f_X0_becomeLike b e u = o) (hk : K none o) : zW dscC l rm_X0_becomeLike G X K u 0 [(0, .ref (G.1 (b + 6))), (1, .ref (G.1 (e + 6)))] [] := by
  unfold f_X0_becomeLike at hf
  refine r_aload_n hC dX0_becomeLike_0 1 rfl ?_
  refine r_getr hC fd_RX0_9 (dR_6 he) rfl dX0_becomeLike_1 ?_
  refine r_iconst (v := 0) hC dX0_becomeLike_4 (by decide) ?_
  refine r_aload_n hC dX0_becomeLike_5 0 rfl ?_
  refine r_getr hC fd_RX0_9 (dR_6 hb) rfl dX0_becomeLike_6 ?_
  refine r_iconst (v := 0) hC dX0_becomeLike_9 (by decide) ?_
  refine r_bipush (v := 64) hC dX0_becomeLike_10 (by decide) ?_
  refine r_cpi hC ac_RX0_25 (dR_7 he) (dR_7 hb) ⟨by decide, by decide, by decide, by decide, by decide⟩ (by decide) dX0_becomeLike_12 ?_
  refine r_tops (fun u1 eu1 => ?_)
  have hf := olet_at eu1 hf
  refine r_aload_n hC dX0_becomeLike_15 1 rfl ?_
  refine r_getr hC fd_RX0_15 (dR_6 he) rfl dX0_becomeLike_16 ?_
  refine r_iconst (v := 0) hC dX0_becomeLike_19 (by decide) ?_
  refine r_aload_n hC dX0_becomeLike_20 0 rfl ?_
  refine r_getr hC fd_RX0_15 (dR_6 hb) rfl dX0_becomeLike_21 ?_
  refine r_iconst (v := 0) hC dX0_becomeLike_24 (by decide) ?_
  refine r_bipush (v := 8) hC dX0_becomeLike_25 (by decide) ?_
  refine r_cpi hC ac_RX0_25 (dR_8 he) (dR_8 hb) ⟨by decide, by decide, by decide, by decide, by decide⟩ (by decide) dX0_becomeLike_27 ?_
  refine r_tops (fun u2 eu2 => ?_)
  have hf := olet_at eu2 hf
  refine r_aload_n hC dX0_becomeLike_30 1 rfl ?_
  refine r_getr hC fd_RX0_18 (dR_6 he) rfl dX0_becomeLike_31 ?_
  refine r_iconst (v := 0) hC dX0_becomeLike_34 (by decide) ?_
  refine r_aload_n hC dX0_becomeLike_35 0 rfl ?_
  refine r_getr hC fd_RX0_18 (dR_6 hb) rfl dX0_becomeLike_36 ?_
  refine r_iconst (v := 0) hC dX0_becomeLike_39 (by decide) ?_
  refine r_bipush (v := 8) hC dX0_becomeLike_40 (by decide) ?_
  refine r_cpi hC ac_RX0_25 (dR_9 he) (dR_9 hb) ⟨by decide, by decide, by decide, by decide, by decide⟩ (by decide) dX0_becomeLike_42 ?_
  refine r_tops (fun u3 eu3 => ?_)
  have hf := olet_at eu3 hf
  refine r_aload_n hC dX0_becomeLike_45 0 rfl ?_
  refine r_aload_n hC dX0_becomeLike_46 1 rfl ?_
  refine r_geti hC fd_RX0_31 (dR_6 he) rfl dX0_becomeLike_47 ?_
  refine r_puti hC fp_RX0_31 (dR_6 hb) rfl dX0_becomeLike_50 ?_
  refine r_tops (fun u4 eu4 => ?_)
  have hf := olet_at eu4 hf
  refine r_aload_n hC dX0_becomeLike_53 0 rfl ?_
  refine r_aload_n hC dX0_becomeLike_54 1 rfl ?_
  refine r_geti hC fd_RX0_21 (dR_6 he) rfl dX0_becomeLike_55 ?_
  refine r_puti hC fp_RX0_21 (dR_6 hb) rfl dX0_becomeLike_58 ?_
  refine r_tops (fun u5 eu5 => ?_)
  have hf := olet_at eu5 hf
  subst hf
  exact r_vret hC dX0_becomeLike_61 hk
set_option maxHeartbeats 4000000 in
set_option maxRecDepth 100000 in
theorem c_X0_becomeLike {l : Launch} {G : zG} {b : Nat} {e : Nat} (hb : isR b) (he : isR e) {u : zS} {r : zS} (hf : f_X0_becomeLike b e u = r) : zM l dscC yX0_becomeLike cX0_becomeLike 2 none rm_X0_becomeLike G [.ref (G.1 (b + 6)), .ref (G.1 (e + 6))] u none r := zM.of (by decide) (Nat.le_of_ble_eq_true rfl) (fun X hC => t_X0_becomeLike hC hb he r hf ⟨rfl, rfl⟩)
set_option maxHeartbeats 4000000 in
set_option maxRecDepth 100000 in
theorem t_X0_note {l : Launch} {G : zG} {X : zX} {K : Option Value → zS → Prop} {b : Nat} (hC : zC G X cX0_note 2 RX0 none) (hb : isR b) {u : zS} (o : zS) (hf : f_X0_note b u = some o) (hk : K none o) : zW dscC l rm_X0_note G X K u 0 [(0, .ref (G.1 (b + 6))), (1, .ref (G.1 b))] [] := by
  unfold f_X0_note at hf
  refine r_aload_n hC dX0_note_0 1 rfl ?_
  refine r_getr hC fd_RX0_34 (dR_0 hb) rfl dX0_note_1 ?_
  refine r_iconst (v := 0) hC dX0_note_4 (by decide) ?_
  refine r_aload_n hC dX0_note_5 0 rfl ?_
  refine r_getr hC fd_RX0_9 (dR_6 hb) rfl dX0_note_6 ?_
  refine r_aload_n hC dX0_note_9 0 rfl ?_
  refine r_geti hC fd_RX0_31 (dR_6 hb) rfl dX0_note_10 ?_
  refine r_bipush (v := 8) hC dX0_note_13 (by decide) ?_
  refine r_imul hC dX0_note_15 ?_
  refine r_bipush (v := 8) hC dX0_note_16 (by decide) ?_
  obtain ⟨g1, hf⟩ := og_cp hf
  refine r_cpi hC ac_RX0_25 (dR_1 hb) (dR_7 hb) g1 (by decide) dX0_note_18 ?_
  refine r_tops (fun u2 eu2 => ?_)
  have hf := olet_at eu2 hf
  refine r_aload_n hC dX0_note_21 0 rfl ?_
  refine r_getr hC fd_RX0_15 (dR_6 hb) rfl dX0_note_22 ?_
  refine r_aload_n hC dX0_note_25 0 rfl ?_
  refine r_geti hC fd_RX0_31 (dR_6 hb) rfl dX0_note_26 ?_
  refine r_aload_n hC dX0_note_29 1 rfl ?_
  refine r_geti hC fd_RX0_37 (dR_0 hb) rfl dX0_note_30 ?_
  obtain ⟨g3, hf⟩ := og_in hf
  refine r_iast hC (dR_8 hb) g3 dX0_note_33 ?_
  refine r_tops (fun u4 eu4 => ?_)
  have hf := olet_at eu4 hf
  refine r_aload_n hC dX0_note_34 0 rfl ?_
  refine r_getr hC fd_RX0_18 (dR_6 hb) rfl dX0_note_35 ?_
  refine r_aload_n hC dX0_note_38 0 rfl ?_
  refine r_geti hC fd_RX0_31 (dR_6 hb) rfl dX0_note_39 ?_
  refine r_aload_n hC dX0_note_42 1 rfl ?_
  refine r_geti hC fd_RX0_40 (dR_0 hb) rfl dX0_note_43 ?_
  obtain ⟨g5, hf⟩ := og_in hf
  refine r_iast hC (dR_9 hb) g5 dX0_note_46 ?_
  refine r_tops (fun u6 eu6 => ?_)
  have hf := olet_at eu6 hf
  refine r_aload_n hC dX0_note_47 0 rfl ?_
  refine r_aload_n hC dX0_note_48 0 rfl ?_
  refine r_geti hC fd_RX0_31 (dR_6 hb) rfl dX0_note_49 ?_
  refine r_iconst (v := 1) hC dX0_note_52 (by decide) ?_
  refine r_iadd hC dX0_note_53 ?_
  refine r_bipush (v := 8) hC dX0_note_54 (by decide) ?_
  refine r_irem (x := ((u6.1 (b + 6) 3) + 1)) (y := 8) hC dX0_note_56 (by decide) ?_
  refine r_puti hC fp_RX0_31 (dR_6 hb) rfl dX0_note_57 ?_
  refine r_tops (fun u7 eu7 => ?_)
  have hf := olet_at eu7 hf
  refine r_aload_n hC dX0_note_60 0 rfl ?_
  refine r_aload_n hC dX0_note_61 0 rfl ?_
  refine r_geti hC fd_RX0_21 (dR_6 hb) rfl dX0_note_62 ?_
  refine r_iconst (v := 1) hC dX0_note_65 (by decide) ?_
  refine r_iadd hC dX0_note_66 ?_
  refine r_bipush (v := 8) hC dX0_note_67 (by decide) ?_
  refine r_mmin hC mm_RX0_43 ym_min ⟨by decide, Nat.le_of_ble_eq_true rfl⟩ dX0_note_69 ?_
  refine r_puti hC fp_RX0_21 (dR_6 hb) rfl dX0_note_72 ?_
  refine r_tops (fun u8 eu8 => ?_)
  have hf := olet_at eu8 hf
  have hf := Option.some.inj hf
  subst hf
  exact r_vret hC dX0_note_75 hk
set_option maxHeartbeats 4000000 in
set_option maxRecDepth 100000 in
theorem c_X0_note {l : Launch} {G : zG} {b : Nat} (hb : isR b) {u : zS} {r : zS} (hf : f_X0_note b u = some r) : zM l dscC yX0_note cX0_note 2 none rm_X0_note G [.ref (G.1 (b + 6)), .ref (G.1 b)] u none r := zM.of (by decide) (Nat.le_of_ble_eq_true rfl) (fun X hC => t_X0_note hC hb r hf ⟨rfl, rfl⟩)
set_option maxHeartbeats 4000000 in
set_option maxRecDepth 100000 in
theorem t_X0_bringBack {l : Launch} {G : zG} {X : zX} {K : Option Value → zS → Prop} {b : Nat} (hC : zC G X cX0_bringBack 2 RX0 none) (hb : isR b) {u : zS} (o : zS) (hf : f_X0_bringBack b u = some o) (hk : K none o) : zW dscC l rm_X0_bringBack G X K u 0 [(0, .ref (G.1 (b + 6))), (1, .ref (G.1 b))] [] := by
  unfold f_X0_bringBack at hf
  refine r_aload_n hC dX0_bringBack_0 0 rfl ?_
  refine r_aload_n hC dX0_bringBack_1 0 rfl ?_
  refine r_geti hC fd_RX0_31 (dR_6 hb) rfl dX0_bringBack_2 ?_
  refine r_bipush (v := 8) hC dX0_bringBack_5 (by decide) ?_
  refine r_iadd hC dX0_bringBack_7 ?_
  refine r_iconst (v := 1) hC dX0_bringBack_8 (by decide) ?_
  refine r_isub hC dX0_bringBack_9 ?_
  refine r_bipush (v := 8) hC dX0_bringBack_10 (by decide) ?_
  refine r_irem (x := (((u.1 (b + 6) 3) + 8) - 1)) (y := 8) hC dX0_bringBack_12 (by decide) ?_
  refine r_puti hC fp_RX0_31 (dR_6 hb) rfl dX0_bringBack_13 ?_
  refine r_tops (fun u1 eu1 => ?_)
  have hf := olet_at eu1 hf
  refine r_aload_n hC dX0_bringBack_16 0 rfl ?_
  refine r_dup hC dX0_bringBack_17 rfl ?_
  refine r_geti hC fd_RX0_21 (dR_6 hb) rfl dX0_bringBack_18 ?_
  refine r_iconst (v := 1) hC dX0_bringBack_21 (by decide) ?_
  refine r_isub hC dX0_bringBack_22 ?_
  refine r_puti hC fp_RX0_21 (dR_6 hb) rfl dX0_bringBack_23 ?_
  refine r_tops (fun u2 eu2 => ?_)
  have hf := olet_at eu2 hf
  refine r_aload_n hC dX0_bringBack_26 0 rfl ?_
  refine r_getr hC fd_RX0_9 (dR_6 hb) rfl dX0_bringBack_27 ?_
  refine r_aload_n hC dX0_bringBack_30 0 rfl ?_
  refine r_geti hC fd_RX0_31 (dR_6 hb) rfl dX0_bringBack_31 ?_
  refine r_bipush (v := 8) hC dX0_bringBack_34 (by decide) ?_
  refine r_imul hC dX0_bringBack_36 ?_
  refine r_aload_n hC dX0_bringBack_37 1 rfl ?_
  refine r_getr hC fd_RX0_34 (dR_0 hb) rfl dX0_bringBack_38 ?_
  refine r_iconst (v := 0) hC dX0_bringBack_41 (by decide) ?_
  refine r_bipush (v := 8) hC dX0_bringBack_42 (by decide) ?_
  obtain ⟨g3, hf⟩ := og_cp hf
  refine r_cpi hC ac_RX0_25 (dR_7 hb) (dR_1 hb) g3 (by decide) dX0_bringBack_44 ?_
  refine r_tops (fun u4 eu4 => ?_)
  have hf := olet_at eu4 hf
  refine r_aload_n hC dX0_bringBack_47 1 rfl ?_
  refine r_aload_n hC dX0_bringBack_48 0 rfl ?_
  refine r_getr hC fd_RX0_15 (dR_6 hb) rfl dX0_bringBack_49 ?_
  refine r_aload_n hC dX0_bringBack_52 0 rfl ?_
  refine r_geti hC fd_RX0_31 (dR_6 hb) rfl dX0_bringBack_53 ?_
  obtain ⟨g5, hf⟩ := og_in hf
  refine r_iald hC (dR_8 hb) g5 dX0_bringBack_56 ?_
  refine r_puti hC fp_RX0_37 (dR_0 hb) rfl dX0_bringBack_57 ?_
  refine r_tops (fun u6 eu6 => ?_)
  have hf := olet_at eu6 hf
  refine r_aload_n hC dX0_bringBack_60 1 rfl ?_
  refine r_aload_n hC dX0_bringBack_61 0 rfl ?_
  refine r_getr hC fd_RX0_18 (dR_6 hb) rfl dX0_bringBack_62 ?_
  refine r_aload_n hC dX0_bringBack_65 0 rfl ?_
  refine r_geti hC fd_RX0_31 (dR_6 hb) rfl dX0_bringBack_66 ?_
  obtain ⟨g7, hf⟩ := og_in hf
  refine r_iald hC (dR_9 hb) g7 dX0_bringBack_69 ?_
  refine r_puti hC fp_RX0_40 (dR_0 hb) rfl dX0_bringBack_70 ?_
  refine r_tops (fun u8 eu8 => ?_)
  have hf := olet_at eu8 hf
  have hf := Option.some.inj hf
  subst hf
  exact r_vret hC dX0_bringBack_73 hk
set_option maxHeartbeats 4000000 in
set_option maxRecDepth 100000 in
theorem c_X0_bringBack {l : Launch} {G : zG} {b : Nat} (hb : isR b) {u : zS} {r : zS} (hf : f_X0_bringBack b u = some r) : zM l dscC yX0_bringBack cX0_bringBack 2 none rm_X0_bringBack G [.ref (G.1 (b + 6)), .ref (G.1 b)] u none r := zM.of (by decide) (Nat.le_of_ble_eq_true rfl) (fun X hC => t_X0_bringBack hC hb r hf ⟨rfl, rfl⟩)
set_option maxHeartbeats 4000000 in
set_option maxRecDepth 100000 in
theorem t_X1_clear {l : Launch} {G : zG} {X : zX} {K : Option Value → zS → Prop} {b : Nat} (hC : zC G X cX1_clear 1 RX1 none) (hb : isR b) {u : zS} (o : zS) (hf : f_X1_clear b u = o) (hk : K none o) : zW dscC l rm_X1_clear G X K u 0 [(0, .ref (G.1 b))] [] := by
  unfold f_X1_clear at hf
  refine r_aload_n hC dX1_clear_0 0 rfl ?_
  refine r_iconst (v := 0) hC dX1_clear_1 (by decide) ?_
  refine r_puti hC fp_RX1_38 (dR_0 hb) rfl dX1_clear_2 ?_
  refine r_tops (fun u1 eu1 => ?_)
  have hf := olet_at eu1 hf
  refine r_aload_n hC dX1_clear_5 0 rfl ?_
  refine r_iconst (v := 0) hC dX1_clear_6 (by decide) ?_
  refine r_puti hC fp_RX1_41 (dR_0 hb) rfl dX1_clear_7 ?_
  refine r_tops (fun u2 eu2 => ?_)
  have hf := olet_at eu2 hf
  refine r_aload_n hC dX1_clear_10 0 rfl ?_
  refine r_iconst (v := 0) hC dX1_clear_11 (by decide) ?_
  refine r_puti hC fp_RX1_44 (dR_0 hb) rfl dX1_clear_12 ?_
  refine r_tops (fun u3 eu3 => ?_)
  have hf := olet_at eu3 hf
  refine r_aload_n hC dX1_clear_15 0 rfl ?_
  refine r_iconst (v := 0) hC dX1_clear_16 (by decide) ?_
  refine r_puti hC fp_RX1_47 (dR_0 hb) rfl dX1_clear_17 ?_
  refine r_tops (fun u4 eu4 => ?_)
  have hf := olet_at eu4 hf
  refine r_aload_n hC dX1_clear_20 0 rfl ?_
  refine r_getr hC fd_RX1_30 (dR_0 hb) rfl dX1_clear_21 ?_
  obtain ⟨r5, er5⟩ : ∃ z, z = f_X0_forget b u4 := ⟨_, rfl⟩
  have hf := olet_at er5 hf
  refine r_cvv (As := []) (rest := []) hC (c_X0_forget hb (r := r5) er5.symm) yv_X0_forget ml_RX1_50 (dR_6 hb) ⟨by decide, by decide, rfl, rfl⟩ rfl rfl (Nat.le_of_ble_eq_true rfl) dX1_clear_24 ?_
  subst hf
  exact r_vret hC dX1_clear_27 hk
set_option maxHeartbeats 4000000 in
set_option maxRecDepth 100000 in
theorem c_X1_clear {l : Launch} {G : zG} {b : Nat} (hb : isR b) {u : zS} {r : zS} (hf : f_X1_clear b u = r) : zM l dscC yX1_clear cX1_clear 1 none rm_X1_clear G [.ref (G.1 b)] u none r := zM.of (by decide) (Nat.le_of_ble_eq_true rfl) (fun X hC => t_X1_clear hC hb r hf ⟨rfl, rfl⟩)
set_option maxHeartbeats 4000000 in
set_option maxRecDepth 100000 in
theorem t_X1_becomeLike {l : Launch} {G : zG} {X : zX} {K : Option Value → zS → Prop} {b : Nat} {e : Nat} (hC : zC G X cX1_becomeLike 2 RX1 none) (hb : isR b) (he : isR e) {u : zS} (o : zS) (hf : f_X1_becomeLike b e u = o) (hk : K none o) : zW dscC l rm_X1_becomeLike G X K u 0 [(0, .ref (G.1 b)), (1, .ref (G.1 e))] [] := by
  unfold f_X1_becomeLike at hf
  refine r_aload_n hC dX1_becomeLike_0 1 rfl ?_
  refine r_getr hC fd_RX1_9 (dR_0 he) rfl dX1_becomeLike_1 ?_
  refine r_iconst (v := 0) hC dX1_becomeLike_4 (by decide) ?_
  refine r_aload_n hC dX1_becomeLike_5 0 rfl ?_
  refine r_getr hC fd_RX1_9 (dR_0 hb) rfl dX1_becomeLike_6 ?_
  refine r_iconst (v := 0) hC dX1_becomeLike_9 (by decide) ?_
  refine r_bipush (v := 8) hC dX1_becomeLike_10 (by decide) ?_
  refine r_cpi hC ac_RX1_53 (dR_1 he) (dR_1 hb) ⟨by decide, by decide, by decide, by decide, by decide⟩ (by decide) dX1_becomeLike_12 ?_
  refine r_tops (fun u1 eu1 => ?_)
  have hf := olet_at eu1 hf
  refine r_aload_n hC dX1_becomeLike_15 1 rfl ?_
  refine r_getr hC fd_RX1_15 (dR_0 he) rfl dX1_becomeLike_16 ?_
  refine r_iconst (v := 0) hC dX1_becomeLike_19 (by decide) ?_
  refine r_aload_n hC dX1_becomeLike_20 0 rfl ?_
  refine r_getr hC fd_RX1_15 (dR_0 hb) rfl dX1_becomeLike_21 ?_
  refine r_iconst (v := 0) hC dX1_becomeLike_24 (by decide) ?_
  refine r_iconst (v := 5) hC dX1_becomeLike_25 (by decide) ?_
  refine r_cpi hC ac_RX1_53 (dR_2 he) (dR_2 hb) ⟨by decide, by decide, by decide, by decide, by decide⟩ (by decide) dX1_becomeLike_26 ?_
  refine r_tops (fun u2 eu2 => ?_)
  have hf := olet_at eu2 hf
  refine r_aload_n hC dX1_becomeLike_29 1 rfl ?_
  refine r_getr hC fd_RX1_18 (dR_0 he) rfl dX1_becomeLike_30 ?_
  refine r_iconst (v := 0) hC dX1_becomeLike_33 (by decide) ?_
  refine r_aload_n hC dX1_becomeLike_34 0 rfl ?_
  refine r_getr hC fd_RX1_18 (dR_0 hb) rfl dX1_becomeLike_35 ?_
  refine r_iconst (v := 0) hC dX1_becomeLike_38 (by decide) ?_
  refine r_iconst (v := 5) hC dX1_becomeLike_39 (by decide) ?_
  refine r_cpi hC ac_RX1_53 (dR_3 he) (dR_3 hb) ⟨by decide, by decide, by decide, by decide, by decide⟩ (by decide) dX1_becomeLike_40 ?_
  refine r_tops (fun u3 eu3 => ?_)
  have hf := olet_at eu3 hf
  refine r_aload_n hC dX1_becomeLike_43 1 rfl ?_
  refine r_getr hC fd_RX1_21 (dR_0 he) rfl dX1_becomeLike_44 ?_
  refine r_iconst (v := 0) hC dX1_becomeLike_47 (by decide) ?_
  refine r_aload_n hC dX1_becomeLike_48 0 rfl ?_
  refine r_getr hC fd_RX1_21 (dR_0 hb) rfl dX1_becomeLike_49 ?_
  refine r_iconst (v := 0) hC dX1_becomeLike_52 (by decide) ?_
  refine r_bipush (v := 40) hC dX1_becomeLike_53 (by decide) ?_
  refine r_cpi hC ac_RX1_53 (dR_4 he) (dR_4 hb) ⟨by decide, by decide, by decide, by decide, by decide⟩ (by decide) dX1_becomeLike_55 ?_
  refine r_tops (fun u4 eu4 => ?_)
  have hf := olet_at eu4 hf
  refine r_aload_n hC dX1_becomeLike_58 1 rfl ?_
  refine r_getr hC fd_RX1_24 (dR_0 he) rfl dX1_becomeLike_59 ?_
  refine r_iconst (v := 0) hC dX1_becomeLike_62 (by decide) ?_
  refine r_aload_n hC dX1_becomeLike_63 0 rfl ?_
  refine r_getr hC fd_RX1_24 (dR_0 hb) rfl dX1_becomeLike_64 ?_
  refine r_iconst (v := 0) hC dX1_becomeLike_67 (by decide) ?_
  refine r_bipush (v := 16) hC dX1_becomeLike_68 (by decide) ?_
  refine r_cpi hC ac_RX1_53 (dR_5 he) (dR_5 hb) ⟨by decide, by decide, by decide, by decide, by decide⟩ (by decide) dX1_becomeLike_70 ?_
  refine r_tops (fun u5 eu5 => ?_)
  have hf := olet_at eu5 hf
  refine r_aload_n hC dX1_becomeLike_73 0 rfl ?_
  refine r_aload_n hC dX1_becomeLike_74 1 rfl ?_
  refine r_geti hC fd_RX1_38 (dR_0 he) rfl dX1_becomeLike_75 ?_
  refine r_puti hC fp_RX1_38 (dR_0 hb) rfl dX1_becomeLike_78 ?_
  refine r_tops (fun u6 eu6 => ?_)
  have hf := olet_at eu6 hf
  refine r_aload_n hC dX1_becomeLike_81 0 rfl ?_
  refine r_aload_n hC dX1_becomeLike_82 1 rfl ?_
  refine r_geti hC fd_RX1_41 (dR_0 he) rfl dX1_becomeLike_83 ?_
  refine r_puti hC fp_RX1_41 (dR_0 hb) rfl dX1_becomeLike_86 ?_
  refine r_tops (fun u7 eu7 => ?_)
  have hf := olet_at eu7 hf
  refine r_aload_n hC dX1_becomeLike_89 0 rfl ?_
  refine r_aload_n hC dX1_becomeLike_90 1 rfl ?_
  refine r_geti hC fd_RX1_44 (dR_0 he) rfl dX1_becomeLike_91 ?_
  refine r_puti hC fp_RX1_44 (dR_0 hb) rfl dX1_becomeLike_94 ?_
  refine r_tops (fun u8 eu8 => ?_)
  have hf := olet_at eu8 hf
  refine r_aload_n hC dX1_becomeLike_97 0 rfl ?_
  refine r_aload_n hC dX1_becomeLike_98 1 rfl ?_
  refine r_geti hC fd_RX1_47 (dR_0 he) rfl dX1_becomeLike_99 ?_
  refine r_puti hC fp_RX1_47 (dR_0 hb) rfl dX1_becomeLike_102 ?_
  refine r_tops (fun u9 eu9 => ?_)
  have hf := olet_at eu9 hf
  refine r_aload_n hC dX1_becomeLike_105 0 rfl ?_
  refine r_aload_n hC dX1_becomeLike_106 1 rfl ?_
  refine r_geti hC fd_RX1_34 (dR_0 he) rfl dX1_becomeLike_107 ?_
  refine r_puti hC fp_RX1_34 (dR_0 hb) rfl dX1_becomeLike_110 ?_
  refine r_tops (fun u10 eu10 => ?_)
  have hf := olet_at eu10 hf
  refine r_aload_n hC dX1_becomeLike_113 0 rfl ?_
  refine r_getr hC fd_RX1_30 (dR_0 hb) rfl dX1_becomeLike_114 ?_
  refine r_aload_n hC dX1_becomeLike_117 1 rfl ?_
  refine r_getr hC fd_RX1_30 (dR_0 he) rfl dX1_becomeLike_118 ?_
  obtain ⟨r11, er11⟩ : ∃ z, z = f_X0_becomeLike b e u10 := ⟨_, rfl⟩
  have hf := olet_at er11 hf
  refine r_cvv (As := [.ref (G.1 (e + 6))]) (rest := []) hC (c_X0_becomeLike hb he (r := r11) er11.symm) yv_X0_becomeLike ml_RX1_59 (dR_6 hb) ⟨by decide, by decide, rfl, rfl⟩ rfl rfl (Nat.le_of_ble_eq_true rfl) dX1_becomeLike_121 ?_
  subst hf
  exact r_vret hC dX1_becomeLike_124 hk
set_option maxHeartbeats 4000000 in
set_option maxRecDepth 100000 in
theorem c_X1_becomeLike {l : Launch} {G : zG} {b : Nat} {e : Nat} (hb : isR b) (he : isR e) {u : zS} {r : zS} (hf : f_X1_becomeLike b e u = r) : zM l dscC yX1_becomeLike cX1_becomeLike 2 none rm_X1_becomeLike G [.ref (G.1 b), .ref (G.1 e)] u none r := zM.of (by decide) (Nat.le_of_ble_eq_true rfl) (fun X hC => t_X1_becomeLike hC hb he r hf ⟨rfl, rfl⟩)
set_option maxHeartbeats 4000000 in
set_option maxRecDepth 100000 in
theorem t_X1_hasAngel {l : Launch} {G : zG} {X : zX} {K : Option Value → zS → Prop} {b : Nat} (hC : zC G X cX1_hasAngel 2 RX1 (some .boolean)) (hb : isR b) {u : zS} {v1 : Int32} (o : Int32) (hf : f_X1_hasAngel b u v1 = o) (hk : K (some (.int o)) u) : zW dscC l rm_X1_hasAngel G X K u 0 [(0, .ref (G.1 b)), (1, .int v1)] [] := by
  unfold f_X1_hasAngel at hf
  refine r_iload_n hC dX1_hasAngel_0 1 rfl ?_
  refine r_if_lt (tgt := 16) hC dX1_hasAngel_1 (by decide) (fun c1 => ?_) (fun c1 => ?_)
  · have hf := ite_t c1 hf
    refine r_iconst (v := 0) hC dX1_hasAngel_16 (by decide) ?_
    subst hf
    exact r_zret hC rfl dX1_hasAngel_17 hk
  · have hf := ite_f c1 hf
    refine r_iload_n hC dX1_hasAngel_4 1 rfl ?_
    refine r_aload_n hC dX1_hasAngel_5 0 rfl ?_
    refine r_geti hC fd_RX1_38 (dR_0 hb) rfl dX1_hasAngel_6 ?_
    refine r_icmp_ge (tgt := 16) hC dX1_hasAngel_9 (by decide) (fun c2 => ?_) (fun c2 => ?_)
    · have hf := ite_t c2 hf
      refine r_iconst (v := 0) hC dX1_hasAngel_16 (by decide) ?_
      subst hf
      exact r_zret hC rfl dX1_hasAngel_17 hk
    · have hf := ite_f c2 hf
      refine r_iconst (v := 1) hC dX1_hasAngel_12 (by decide) ?_
      refine r_goto (tgt := 17) hC dX1_hasAngel_13 (by decide) ?_
      subst hf
      exact r_zret hC rfl dX1_hasAngel_17 hk
set_option maxHeartbeats 4000000 in
set_option maxRecDepth 100000 in
theorem c_X1_hasAngel {l : Launch} {G : zG} {b : Nat} (hb : isR b) {u : zS} {v1 : Int32} : zM l dscC yX1_hasAngel cX1_hasAngel 2 (some .boolean) rm_X1_hasAngel G [.ref (G.1 b), .int v1] u (some (.int (f_X1_hasAngel b u v1))) u := zM.of (by decide) (Nat.le_of_ble_eq_true rfl) (fun X hC => t_X1_hasAngel hC hb _ rfl ⟨rfl, rfl⟩)
set_option maxHeartbeats 4000000 in
set_option maxRecDepth 100000 in
theorem bz_X1_hasAngel (b : Nat) (u : zS) (v1 : Int32) : narrow .boolean (.int (f_X1_hasAngel b u v1)) = .int (f_X1_hasAngel b u v1) := zz_nar (by unfold f_X1_hasAngel; (repeat' split) <;> simp)
set_option maxHeartbeats 4000000 in
set_option maxRecDepth 100000 in
theorem t_X1_hasFigure {l : Launch} {G : zG} {X : zX} {K : Option Value → zS → Prop} {b : Nat} (hC : zC G X cX1_hasFigure 2 RX1 (some .boolean)) (hb : isR b) {u : zS} {v1 : Int32} (o : Int32) (hf : f_X1_hasFigure b u v1 = o) (hk : K (some (.int o)) u) : zW dscC l rm_X1_hasFigure G X K u 0 [(0, .ref (G.1 b)), (1, .int v1)] [] := by
  unfold f_X1_hasFigure at hf
  refine r_iload_n hC dX1_hasFigure_0 1 rfl ?_
  refine r_if_lt (tgt := 16) hC dX1_hasFigure_1 (by decide) (fun c1 => ?_) (fun c1 => ?_)
  · have hf := ite_t c1 hf
    refine r_iconst (v := 0) hC dX1_hasFigure_16 (by decide) ?_
    subst hf
    exact r_zret hC rfl dX1_hasFigure_17 hk
  · have hf := ite_f c1 hf
    refine r_iload_n hC dX1_hasFigure_4 1 rfl ?_
    refine r_aload_n hC dX1_hasFigure_5 0 rfl ?_
    refine r_geti hC fd_RX1_41 (dR_0 hb) rfl dX1_hasFigure_6 ?_
    refine r_icmp_ge (tgt := 16) hC dX1_hasFigure_9 (by decide) (fun c2 => ?_) (fun c2 => ?_)
    · have hf := ite_t c2 hf
      refine r_iconst (v := 0) hC dX1_hasFigure_16 (by decide) ?_
      subst hf
      exact r_zret hC rfl dX1_hasFigure_17 hk
    · have hf := ite_f c2 hf
      refine r_iconst (v := 1) hC dX1_hasFigure_12 (by decide) ?_
      refine r_goto (tgt := 17) hC dX1_hasFigure_13 (by decide) ?_
      subst hf
      exact r_zret hC rfl dX1_hasFigure_17 hk
set_option maxHeartbeats 4000000 in
set_option maxRecDepth 100000 in
theorem c_X1_hasFigure {l : Launch} {G : zG} {b : Nat} (hb : isR b) {u : zS} {v1 : Int32} : zM l dscC yX1_hasFigure cX1_hasFigure 2 (some .boolean) rm_X1_hasFigure G [.ref (G.1 b), .int v1] u (some (.int (f_X1_hasFigure b u v1))) u := zM.of (by decide) (Nat.le_of_ble_eq_true rfl) (fun X hC => t_X1_hasFigure hC hb _ rfl ⟨rfl, rfl⟩)
set_option maxHeartbeats 4000000 in
set_option maxRecDepth 100000 in
theorem bz_X1_hasFigure (b : Nat) (u : zS) (v1 : Int32) : narrow .boolean (.int (f_X1_hasFigure b u v1)) = .int (f_X1_hasFigure b u v1) := zz_nar (by unfold f_X1_hasFigure; (repeat' split) <;> simp)
set_option maxHeartbeats 4000000 in
set_option maxRecDepth 100000 in
theorem t_X1_addAngel {l : Launch} {G : zG} {X : zX} {K : Option Value → zS → Prop} {b : Nat} (hC : zC G X cX1_addAngel 2 RX1 (some .int)) (hb : isR b) {u : zS} {v1 : Int32} (o : Int32 × zS) (hf : f_X1_addAngel b u v1 = some o) (hk : K (some (.int o.1)) o.2) : zW dscC l rm_X1_addAngel G X K u 0 [(0, .ref (G.1 b)), (1, .int v1)] [] := by
  unfold f_X1_addAngel at hf
  refine r_aload_n hC dX1_addAngel_0 0 rfl ?_
  refine r_geti hC fd_RX1_38 (dR_0 hb) rfl dX1_addAngel_1 ?_
  refine r_bipush (v := 8) hC dX1_addAngel_4 (by decide) ?_
  refine r_icmp_lt (tgt := 12) hC dX1_addAngel_6 (by decide) (fun c1 => ?_) (fun c1 => ?_)
  · have hf := ite_t c1 hf
    refine r_aload_n hC dX1_addAngel_12 0 rfl ?_
    refine r_getr hC fd_RX1_9 (dR_0 hb) rfl dX1_addAngel_13 ?_
    refine r_aload_n hC dX1_addAngel_16 0 rfl ?_
    refine r_geti hC fd_RX1_38 (dR_0 hb) rfl dX1_addAngel_17 ?_
    refine r_iload_n hC dX1_addAngel_20 1 rfl ?_
    obtain ⟨g2, hf⟩ := og_in hf
    refine r_iast hC (dR_1 hb) g2 dX1_addAngel_21 ?_
    refine r_tops (fun u3 eu3 => ?_)
    have hf := olet_at eu3 hf
    refine r_aload_n hC dX1_addAngel_22 0 rfl ?_
    refine r_dup hC dX1_addAngel_23 rfl ?_
    refine r_geti hC fd_RX1_38 (dR_0 hb) rfl dX1_addAngel_24 ?_
    refine r_iconst (v := 1) hC dX1_addAngel_27 (by decide) ?_
    refine r_iadd hC dX1_addAngel_28 ?_
    refine r_puti hC fp_RX1_38 (dR_0 hb) rfl dX1_addAngel_29 ?_
    refine r_tops (fun u4 eu4 => ?_)
    have hf := olet_at eu4 hf
    refine r_aload_n hC dX1_addAngel_32 0 rfl ?_
    refine r_geti hC fd_RX1_38 (dR_0 hb) rfl dX1_addAngel_33 ?_
    refine r_iconst (v := 1) hC dX1_addAngel_36 (by decide) ?_
    refine r_isub hC dX1_addAngel_37 ?_
    have hf := Option.some.inj hf
    subst hf
    exact r_iret hC dX1_addAngel_38 hk
  · have hf := ite_f c1 hf
    refine r_bipush (v := (-3)) hC dX1_addAngel_9 (by decide) ?_
    have hf := Option.some.inj hf
    subst hf
    exact r_iret hC dX1_addAngel_11 hk
set_option maxHeartbeats 4000000 in
set_option maxRecDepth 100000 in
theorem c_X1_addAngel {l : Launch} {G : zG} {b : Nat} (hb : isR b) {u : zS} {v1 : Int32} {r : Int32 × zS} (hf : f_X1_addAngel b u v1 = some r) : zM l dscC yX1_addAngel cX1_addAngel 2 (some .int) rm_X1_addAngel G [.ref (G.1 b), .int v1] u (some (.int r.1)) r.2 := zM.of (by decide) (Nat.le_of_ble_eq_true rfl) (fun X hC => t_X1_addAngel hC hb r hf ⟨rfl, rfl⟩)
set_option maxHeartbeats 4000000 in
set_option maxRecDepth 100000 in
theorem t_X5_leftBy8 {l : Launch} {G : zG} {X : zX} {K : Option Value → zS → Prop} (hC : zC G X cX5_leftBy8 1 RX5 (some .int)) {u : zS} {v0 : Int32} (o : Int32) (hf : f_X5_leftBy8 v0 = o) (hk : K (some (.int o)) u) : zW dscC l rm_X5_leftBy8 G X K u 0 [(0, .int v0)] [] := by
  unfold f_X5_leftBy8 at hf
  refine r_iload_n hC dX5_leftBy8_0 0 rfl ?_
  refine r_bipush (v := 7) hC dX5_leftBy8_1 (by decide) ?_
  refine r_iand hC dX5_leftBy8_3 ?_
  subst hf
  exact r_iret hC dX5_leftBy8_4 hk
set_option maxHeartbeats 4000000 in
set_option maxRecDepth 100000 in
theorem c_X5_leftBy8 {l : Launch} {G : zG} {u : zS} {v0 : Int32} : zM l dscC yX5_leftBy8 cX5_leftBy8 1 (some .int) rm_X5_leftBy8 G [.int v0] u (some (.int (f_X5_leftBy8 v0))) u := zM.of (by decide) (Nat.le_of_ble_eq_true rfl) (fun X hC => t_X5_leftBy8 hC _ rfl ⟨rfl, rfl⟩)
set_option maxHeartbeats 4000000 in
set_option maxRecDepth 100000 in
theorem t_X5_lead {l : Launch} {G : zG} {X : zX} {K : Option Value → zS → Prop} (hC : zC G X cX5_lead 6 RX5 (some .int)) {u : zS} {v0 : Int32} {v1 : Int32} {v2 : Int32} (o : Int32) (hf : f_X5_lead v0 v1 v2 = o) (hk : K (some (.int o)) u) : zW dscC l rm_X5_lead G X K u 0 [(0, .int v0), (1, .int v1), (2, .int v2)] [] := by
  unfold f_X5_lead at hf
  refine r_iload_n hC dX5_lead_0 2 rfl ?_
  refine r_iload_n hC dX5_lead_1 1 rfl ?_
  refine r_iadd hC dX5_lead_2 ?_
  refine r_csi (As := [.int (v2 + v1)]) (rest := []) hC c_X5_leftBy8 ys_X5_leftBy8 ml_RX5_291 ⟨by decide, by decide, rfl, rfl⟩ rfl rfl (Nat.le_of_ble_eq_true rfl) dX5_lead_3 ?_
  refine r_topi (fun w1 ew1 => ?_)
  have hf := olet_at ew1 hf
  refine r_istore_n (lv' := [(3, .int w1), (0, .int v0), (1, .int v1), (2, .int v2)]) hC dX5_lead_6 rfl (by decide) rfl ?_
  refine r_iload_n hC dX5_lead_7 0 rfl ?_
  refine r_iload_n hC dX5_lead_8 2 rfl ?_
  refine r_iadd hC dX5_lead_9 ?_
  refine r_csi (As := [.int (w1 + v1)]) (rest := []) hC c_X5_leftBy8 ys_X5_leftBy8 ml_RX5_291 ⟨by decide, by decide, rfl, rfl⟩ rfl rfl (Nat.le_of_ble_eq_true rfl) dX5_lead_10 ?_
  refine r_topi (fun w2 ew2 => ?_)
  have hf := olet_at ew2 hf
  refine r_istore (lv' := [(4, .int w2), (3, .int w1), (0, .int v0), (1, .int v1), (2, .int v2)]) hC dX5_lead_13 (by decide) rfl ?_
  refine r_bipush (v := 8) hC dX5_lead_15 (by decide) ?_
  refine r_iload_n hC dX5_lead_17 4 rfl ?_
  refine r_isub hC dX5_lead_18 ?_
  refine r_iload_n hC dX5_lead_19 3 rfl ?_
  refine r_iadd hC dX5_lead_20 ?_
  refine r_csi (As := [.int ((8 - v2) + v1)]) (rest := []) hC c_X5_leftBy8 ys_X5_leftBy8 ml_RX5_291 ⟨by decide, by decide, rfl, rfl⟩ rfl rfl (Nat.le_of_ble_eq_true rfl) dX5_lead_21 ?_
  refine r_topi (fun w3 ew3 => ?_)
  have hf := olet_at ew3 hf
  refine r_istore (lv' := [(5, .int w3), (4, .int w2), (3, .int w1), (0, .int v0), (1, .int v1), (2, .int v2)]) hC dX5_lead_24 (by decide) rfl ?_
  refine r_iload_n hC dX5_lead_26 3 rfl ?_
  by_cases s4 : v0 = 0
  · have hf := ite_t s4 hf
    refine r_tsIn (q := 0) (off := 29) (tgt := 56) hC dX5_lead_27 s4 (by decide) (by decide) ?_
    refine r_iload_n hC dX5_lead_56 2 rfl ?_
    subst hf
    exact r_iret hC dX5_lead_57 hk
  · have hf := ite_f s4 hf
    by_cases s5 : v0 = 1
    · have hf := ite_t s5 hf
      refine r_tsIn (q := 1) (off := 31) (tgt := 58) hC dX5_lead_27 s5 (by decide) (by decide) ?_
      refine r_iload hC dX5_lead_58 1 rfl ?_
      subst hf
      exact r_iret hC dX5_lead_60 hk
    · have hf := ite_f s5 hf
      by_cases s6 : v0 = 2
      · have hf := ite_t s6 hf
        refine r_tsIn (q := 2) (off := 34) (tgt := 61) hC dX5_lead_27 s6 (by decide) (by decide) ?_
        refine r_iload hC dX5_lead_61 0 rfl ?_
        subst hf
        exact r_iret hC dX5_lead_63 hk
      · have hf := ite_f s6 hf
        by_cases s7 : v0 = 3
        · have hf := ite_t s7 hf
          refine r_tsIn (q := 3) (off := 37) (tgt := 64) hC dX5_lead_27 s7 (by decide) (by decide) ?_
          refine r_iload_n hC dX5_lead_64 5 rfl ?_
          refine r_iconst (v := 2) hC dX5_lead_65 (by decide) ?_
          refine r_irem (x := v2) (y := 2) hC dX5_lead_66 (by decide) ?_
          refine r_if_ne (tgt := 75) hC dX5_lead_67 (by decide) (fun c8 => ?_) (fun c8 => ?_)
          · have hf := ite_f c8 hf
            refine r_iload_n hC dX5_lead_75 5 rfl ?_
            subst hf
            exact r_iret hC dX5_lead_76 hk
          · have hf := ite_t c8 hf
            refine r_iload hC dX5_lead_70 1 rfl ?_
            refine r_goto (tgt := 76) hC dX5_lead_72 (by decide) ?_
            subst hf
            exact r_iret hC dX5_lead_76 hk
        · have hf := ite_f s7 hf
          refine r_tsOut (tgt := 77) hC dX5_lead_27 (by have zs4 := lv_neT (a := 0) s4 rfl; have zs5 := lv_neT (a := 1) s5 rfl; have zs6 := lv_neT (a := 2) s6 rfl; have zs7 := lv_neT (a := 3) s7 rfl; omega) (by decide) ?_
          refine r_iload hC dX5_lead_77 0 rfl ?_
          refine r_iconst (v := 4) hC dX5_lead_79 (by decide) ?_
          refine r_irem (x := w3) (y := 4) hC dX5_lead_80 (by decide) ?_
          refine r_if_ne (tgt := 91) hC dX5_lead_81 (by decide) (fun c9 => ?_) (fun c9 => ?_)
          · have hf := ite_f c9 hf
            refine r_iload hC dX5_lead_91 0 rfl ?_
            subst hf
            exact r_iret hC dX5_lead_93 hk
          · have hf := ite_t c9 hf
            refine r_iconst (v := 4) hC dX5_lead_84 (by decide) ?_
            refine r_iload hC dX5_lead_85 0 rfl ?_
            refine r_isub hC dX5_lead_87 ?_
            refine r_goto (tgt := 93) hC dX5_lead_88 (by decide) ?_
            subst hf
            exact r_iret hC dX5_lead_93 hk
set_option maxHeartbeats 4000000 in
set_option maxRecDepth 100000 in
theorem c_X5_lead {l : Launch} {G : zG} {u : zS} {v0 : Int32} {v1 : Int32} {v2 : Int32} : zM l dscC yX5_lead cX5_lead 6 (some .int) rm_X5_lead G [.int v0, .int v1, .int v2] u (some (.int (f_X5_lead v0 v1 v2))) u := zM.of (by decide) (Nat.le_of_ble_eq_true rfl) (fun X hC => t_X5_lead hC _ rfl ⟨rfl, rfl⟩)
set_option maxHeartbeats 4000000 in
set_option maxRecDepth 100000 in
theorem t_X1_tell_L17_B {l : Launch} {G : zG} {X : zX} {K : Option Value → zS → Prop} {b : Nat} (hC : zC G X cX1_tell 5 RX1 none) (hb : isR b) {N : Nat} {v1 : Int32} {v2 : Int32} {v3 : Int32} {rec : zS → Int32 → Option (zS)} (hrec : ∀ (u : zS) (v4 : Int32) (o : zS), rec u v4 = some o → zW dscC l rm_X1_tell G X K o 49 [] [] → zW dscC l rm_X1_tell G X K u 17 [(0, .ref (G.1 b)), (1, .int v1), (2, .int v2), (3, .int v3), (4, .int v4)] []) : ∀ (u : zS) (v4 : Int32) (o : zS), f_X1_tell_L17_B N b v1 v2 v3 rec u v4 = some o → zW dscC l rm_X1_tell G X K o 49 [] [] → zW dscC l rm_X1_tell G X K u 17 [(0, .ref (G.1 b)), (1, .int v1), (2, .int v2), (3, .int v3), (4, .int v4)] [] := by
  intro u v4 o hf hk
  unfold f_X1_tell_L17_B at hf
  refine r_iload hC dX1_tell_17 4 rfl ?_
  refine r_bipush (v := 8) hC dX1_tell_19 (by decide) ?_
  refine r_icmp_ge (tgt := 49) hC dX1_tell_21 (by decide) (fun c5 => ?_) (fun c5 => ?_)
  · have hf := ite_t c5 hf
    have hf := Option.some.inj hf
    subst hf
    refine r_loc [] rfl ?_
    exact hk
  · have hf := ite_f c5 hf
    refine r_aload_n hC dX1_tell_24 0 rfl ?_
    refine r_getr hC fd_RX1_21 (dR_0 hb) rfl dX1_tell_25 ?_
    refine r_iload_n hC dX1_tell_28 1 rfl ?_
    refine r_bipush (v := 8) hC dX1_tell_29 (by decide) ?_
    refine r_imul hC dX1_tell_31 ?_
    refine r_iload hC dX1_tell_32 4 rfl ?_
    refine r_iadd hC dX1_tell_34 ?_
    refine r_iload_n hC dX1_tell_35 2 rfl ?_
    refine r_iload_n hC dX1_tell_36 3 rfl ?_
    refine r_iload hC dX1_tell_37 4 rfl ?_
    refine r_csni (As := [.int v2, .int v3, .int v4]) (rest := [.int ((v1 * 8) + v4), .ref (G.1 (b + 4))]) hC c_X5_lead ys_X5_lead mn_RX1_67 ⟨by decide, by decide, rfl, rfl⟩ rfl rfl (Nat.le_of_ble_eq_true rfl) dX1_tell_39 ?_
    obtain ⟨g6, hf⟩ := og_in hf
    refine r_iast hC (dR_4 hb) g6 dX1_tell_42 ?_
    refine r_tops (fun u7 eu7 => ?_)
    have hf := olet_at eu7 hf
    refine r_iinc (v := 1) (lv' := [(4, .int (v4 + 1)), (0, .ref (G.1 b)), (1, .int v1), (2, .int v2), (3, .int v3)]) hC dX1_tell_43 4 rfl (by decide) (by decide) rfl ?_
    refine r_goto (tgt := 17) hC dX1_tell_46 (by decide) ?_
    refine r_loc [1, 2, 3, 4, 0] rfl ?_
    exact hrec u7 (v4 + 1) o hf hk
set_option maxHeartbeats 4000000 in
set_option maxRecDepth 100000 in
theorem t_X1_tell_L17 {l : Launch} {G : zG} {X : zX} {K : Option Value → zS → Prop} {b : Nat} (hC : zC G X cX1_tell 5 RX1 none) (hb : isR b) {N : Nat} {v1 : Int32} {v2 : Int32} {v3 : Int32} : ∀ (n : Nat) (u : zS) (v4 : Int32) (o : zS), f_X1_tell_L17 N b v1 v2 v3 n u v4 = some o → zW dscC l rm_X1_tell G X K o 49 [] [] → zW dscC l rm_X1_tell G X K u 17 [(0, .ref (G.1 b)), (1, .int v1), (2, .int v2), (3, .int v3), (4, .int v4)] [] := by
  intro n
  induction n with
  | zero => intro u v4 o hf; cases hf
  | succ n ih => intro u v4 o hf hk; exact t_X1_tell_L17_B hC hb (rec := f_X1_tell_L17 N b v1 v2 v3 n) ih u v4 o hf hk
set_option maxHeartbeats 4000000 in
set_option maxRecDepth 100000 in
theorem t_X1_tell {l : Launch} {G : zG} {X : zX} {K : Option Value → zS → Prop} {b : Nat} (hC : zC G X cX1_tell 5 RX1 none) (hb : isR b) {N : Nat} {u : zS} {v1 : Int32} {v2 : Int32} {v3 : Int32} (o : zS) (hf : f_X1_tell N b u v1 v2 v3 = some o) (hk : K none o) : zW dscC l rm_X1_tell G X K u 0 [(0, .ref (G.1 b)), (1, .int v1), (2, .int v2), (3, .int v3)] [] := by
  unfold f_X1_tell at hf
  refine r_aload_n hC dX1_tell_0 0 rfl ?_
  refine r_getr hC fd_RX1_15 (dR_0 hb) rfl dX1_tell_1 ?_
  refine r_iload_n hC dX1_tell_4 1 rfl ?_
  refine r_iload_n hC dX1_tell_5 2 rfl ?_
  obtain ⟨g1, hf⟩ := og_in hf
  refine r_iast hC (dR_2 hb) g1 dX1_tell_6 ?_
  refine r_tops (fun u2 eu2 => ?_)
  have hf := olet_at eu2 hf
  refine r_aload_n hC dX1_tell_7 0 rfl ?_
  refine r_getr hC fd_RX1_18 (dR_0 hb) rfl dX1_tell_8 ?_
  refine r_iload_n hC dX1_tell_11 1 rfl ?_
  refine r_iload_n hC dX1_tell_12 3 rfl ?_
  obtain ⟨g3, hf⟩ := og_in hf
  refine r_iast hC (dR_3 hb) g3 dX1_tell_13 ?_
  refine r_tops (fun u4 eu4 => ?_)
  have hf := olet_at eu4 hf
  refine r_iconst (v := 0) hC dX1_tell_14 (by decide) ?_
  refine r_istore (lv' := [(4, .int 0), (0, .ref (G.1 b)), (1, .int v1), (2, .int v2), (3, .int v3)]) hC dX1_tell_15 (by decide) rfl ?_
  refine r_loc [1, 2, 3, 4, 0] rfl ?_
  obtain ⟨q8, eq8, hf⟩ := ob_some hf
  refine t_X1_tell_L17 hC hb N u4 0 q8 eq8 ?_
  have hf := Option.some.inj hf
  subst hf
  exact r_vret hC dX1_tell_49 hk
set_option maxHeartbeats 4000000 in
set_option maxRecDepth 100000 in
theorem c_X1_tell {l : Launch} {G : zG} {b : Nat} (hb : isR b) {N : Nat} {u : zS} {v1 : Int32} {v2 : Int32} {v3 : Int32} {r : zS} (hf : f_X1_tell N b u v1 v2 v3 = some r) : zM l dscC yX1_tell cX1_tell 5 none rm_X1_tell G [.ref (G.1 b), .int v1, .int v2, .int v3] u none r := zM.of (by decide) (Nat.le_of_ble_eq_true rfl) (fun X hC => t_X1_tell hC hb r hf ⟨rfl, rfl⟩)
set_option maxHeartbeats 4000000 in
set_option maxRecDepth 100000 in
theorem t_X1_addFigure {l : Launch} {G : zG} {X : zX} {K : Option Value → zS → Prop} {b : Nat} (hC : zC G X cX1_addFigure 3 RX1 (some .int)) (hb : isR b) {N : Nat} {u : zS} {v1 : Int32} {v2 : Int32} (o : Int32 × zS) (hf : f_X1_addFigure N b u v1 v2 = some o) (hk : K (some (.int o.1)) o.2) : zW dscC l rm_X1_addFigure G X K u 0 [(0, .ref (G.1 b)), (1, .int v1), (2, .int v2)] [] := by
  unfold f_X1_addFigure at hf
  refine r_aload_n hC dX1_addFigure_0 0 rfl ?_
  refine r_geti hC fd_RX1_41 (dR_0 hb) rfl dX1_addFigure_1 ?_
  refine r_iconst (v := 5) hC dX1_addFigure_4 (by decide) ?_
  refine r_icmp_lt (tgt := 11) hC dX1_addFigure_5 (by decide) (fun c1 => ?_) (fun c1 => ?_)
  · have hf := ite_t c1 hf
    refine r_aload_n hC dX1_addFigure_11 0 rfl ?_
    refine r_aload_n hC dX1_addFigure_12 0 rfl ?_
    refine r_geti hC fd_RX1_41 (dR_0 hb) rfl dX1_addFigure_13 ?_
    refine r_iload_n hC dX1_addFigure_16 1 rfl ?_
    refine r_iload_n hC dX1_addFigure_17 2 rfl ?_
    obtain ⟨r2, er2, hf⟩ := ob_some hf
    refine r_cvv (As := [.int (u.1 b 7), .int v1, .int v2]) (rest := []) hC (c_X1_tell hb er2) yv_X1_tell ml_RX1_63 (dR_0 hb) ⟨by decide, by decide, rfl, rfl⟩ rfl rfl (Nat.le_of_ble_eq_true rfl) dX1_addFigure_18 ?_
    refine r_aload_n hC dX1_addFigure_21 0 rfl ?_
    refine r_dup hC dX1_addFigure_22 rfl ?_
    refine r_geti hC fd_RX1_41 (dR_0 hb) rfl dX1_addFigure_23 ?_
    refine r_iconst (v := 1) hC dX1_addFigure_26 (by decide) ?_
    refine r_iadd hC dX1_addFigure_27 ?_
    refine r_puti hC fp_RX1_41 (dR_0 hb) rfl dX1_addFigure_28 ?_
    refine r_tops (fun u3 eu3 => ?_)
    have hf := olet_at eu3 hf
    refine r_aload_n hC dX1_addFigure_31 0 rfl ?_
    refine r_geti hC fd_RX1_41 (dR_0 hb) rfl dX1_addFigure_32 ?_
    refine r_iconst (v := 1) hC dX1_addFigure_35 (by decide) ?_
    refine r_isub hC dX1_addFigure_36 ?_
    have hf := Option.some.inj hf
    subst hf
    exact r_iret hC dX1_addFigure_37 hk
  · have hf := ite_f c1 hf
    refine r_bipush (v := (-3)) hC dX1_addFigure_8 (by decide) ?_
    have hf := Option.some.inj hf
    subst hf
    exact r_iret hC dX1_addFigure_10 hk
set_option maxHeartbeats 4000000 in
set_option maxRecDepth 100000 in
theorem c_X1_addFigure {l : Launch} {G : zG} {b : Nat} (hb : isR b) {N : Nat} {u : zS} {v1 : Int32} {v2 : Int32} {r : Int32 × zS} (hf : f_X1_addFigure N b u v1 v2 = some r) : zM l dscC yX1_addFigure cX1_addFigure 3 (some .int) rm_X1_addFigure G [.ref (G.1 b), .int v1, .int v2] u (some (.int r.1)) r.2 := zM.of (by decide) (Nat.le_of_ble_eq_true rfl) (fun X hC => t_X1_addFigure hC hb r hf ⟨rfl, rfl⟩)
set_option maxHeartbeats 4000000 in
set_option maxRecDepth 100000 in
theorem t_X1_addToTune {l : Launch} {G : zG} {X : zX} {K : Option Value → zS → Prop} {b : Nat} (hC : zC G X cX1_addToTune 2 RX1 (some .int)) (hb : isR b) {u : zS} {v1 : Int32} (o : Int32 × zS) (hf : f_X1_addToTune b u v1 = some o) (hk : K (some (.int o.1)) o.2) : zW dscC l rm_X1_addToTune G X K u 0 [(0, .ref (G.1 b)), (1, .int v1)] [] := by
  unfold f_X1_addToTune at hf
  refine r_aload_n hC dX1_addToTune_0 0 rfl ?_
  refine r_geti hC fd_RX1_44 (dR_0 hb) rfl dX1_addToTune_1 ?_
  refine r_bipush (v := 16) hC dX1_addToTune_4 (by decide) ?_
  refine r_icmp_lt (tgt := 12) hC dX1_addToTune_6 (by decide) (fun c1 => ?_) (fun c1 => ?_)
  · have hf := ite_t c1 hf
    refine r_aload_n hC dX1_addToTune_12 0 rfl ?_
    refine r_getr hC fd_RX1_24 (dR_0 hb) rfl dX1_addToTune_13 ?_
    refine r_aload_n hC dX1_addToTune_16 0 rfl ?_
    refine r_geti hC fd_RX1_44 (dR_0 hb) rfl dX1_addToTune_17 ?_
    refine r_iload_n hC dX1_addToTune_20 1 rfl ?_
    obtain ⟨g2, hf⟩ := og_in hf
    refine r_iast hC (dR_5 hb) g2 dX1_addToTune_21 ?_
    refine r_tops (fun u3 eu3 => ?_)
    have hf := olet_at eu3 hf
    refine r_aload_n hC dX1_addToTune_22 0 rfl ?_
    refine r_dup hC dX1_addToTune_23 rfl ?_
    refine r_geti hC fd_RX1_44 (dR_0 hb) rfl dX1_addToTune_24 ?_
    refine r_iconst (v := 1) hC dX1_addToTune_27 (by decide) ?_
    refine r_iadd hC dX1_addToTune_28 ?_
    refine r_puti hC fp_RX1_44 (dR_0 hb) rfl dX1_addToTune_29 ?_
    refine r_tops (fun u4 eu4 => ?_)
    have hf := olet_at eu4 hf
    refine r_aload_n hC dX1_addToTune_32 0 rfl ?_
    refine r_geti hC fd_RX1_44 (dR_0 hb) rfl dX1_addToTune_33 ?_
    have hf := Option.some.inj hf
    subst hf
    exact r_iret hC dX1_addToTune_36 hk
  · have hf := ite_f c1 hf
    refine r_bipush (v := (-3)) hC dX1_addToTune_9 (by decide) ?_
    have hf := Option.some.inj hf
    subst hf
    exact r_iret hC dX1_addToTune_11 hk
set_option maxHeartbeats 4000000 in
set_option maxRecDepth 100000 in
theorem c_X1_addToTune {l : Launch} {G : zG} {b : Nat} (hb : isR b) {u : zS} {v1 : Int32} {r : Int32 × zS} (hf : f_X1_addToTune b u v1 = some r) : zM l dscC yX1_addToTune cX1_addToTune 2 (some .int) rm_X1_addToTune G [.ref (G.1 b), .int v1] u (some (.int r.1)) r.2 := zM.of (by decide) (Nat.le_of_ble_eq_true rfl) (fun X hC => t_X1_addToTune hC hb r hf ⟨rfl, rfl⟩)
set_option maxHeartbeats 4000000 in
set_option maxRecDepth 100000 in
theorem t_X5_within {l : Launch} {G : zG} {X : zX} {K : Option Value → zS → Prop} (hC : zC G X cX5_within 3 RX5 (some .boolean)) {u : zS} {v0 : Int32} {v1 : Int32} {v2 : Int32} (o : Int32) (hf : f_X5_within v0 v1 v2 = o) (hk : K (some (.int o)) u) : zW dscC l rm_X5_within G X K u 0 [(0, .int v0), (1, .int v1), (2, .int v2)] [] := by
  unfold f_X5_within at hf
  refine r_iload_n hC dX5_within_0 0 rfl ?_
  refine r_iload_n hC dX5_within_1 1 rfl ?_
  refine r_icmp_lt (tgt := 14) hC dX5_within_2 (by decide) (fun c1 => ?_) (fun c1 => ?_)
  · have hf := ite_t c1 hf
    refine r_iconst (v := 0) hC dX5_within_14 (by decide) ?_
    subst hf
    exact r_zret hC rfl dX5_within_15 hk
  · have hf := ite_f c1 hf
    refine r_iload_n hC dX5_within_5 0 rfl ?_
    refine r_iload_n hC dX5_within_6 2 rfl ?_
    refine r_icmp_gt (tgt := 14) hC dX5_within_7 (by decide) (fun c2 => ?_) (fun c2 => ?_)
    · have hf := ite_t c2 hf
      refine r_iconst (v := 0) hC dX5_within_14 (by decide) ?_
      subst hf
      exact r_zret hC rfl dX5_within_15 hk
    · have hf := ite_f c2 hf
      refine r_iconst (v := 1) hC dX5_within_10 (by decide) ?_
      refine r_goto (tgt := 15) hC dX5_within_11 (by decide) ?_
      subst hf
      exact r_zret hC rfl dX5_within_15 hk
set_option maxHeartbeats 4000000 in
set_option maxRecDepth 100000 in
theorem c_X5_within {l : Launch} {G : zG} {u : zS} {v0 : Int32} {v1 : Int32} {v2 : Int32} : zM l dscC yX5_within cX5_within 3 (some .boolean) rm_X5_within G [.int v0, .int v1, .int v2] u (some (.int (f_X5_within v0 v1 v2))) u := zM.of (by decide) (Nat.le_of_ble_eq_true rfl) (fun X hC => t_X5_within hC _ rfl ⟨rfl, rfl⟩)
set_option maxHeartbeats 4000000 in
set_option maxRecDepth 100000 in
theorem bz_X5_within (v0 : Int32) (v1 : Int32) (v2 : Int32) : narrow .boolean (.int (f_X5_within v0 v1 v2)) = .int (f_X5_within v0 v1 v2) := zz_nar (by unfold f_X5_within; (repeat' split) <;> simp)
set_option maxHeartbeats 4000000 in
set_option maxRecDepth 100000 in
theorem t_X5_isPlace {l : Launch} {G : zG} {X : zX} {K : Option Value → zS → Prop} (hC : zC G X cX5_isPlace 1 RX5 (some .boolean)) {u : zS} {v0 : Int32} (o : Int32) (hf : f_X5_isPlace v0 = o) (hk : K (some (.int o)) u) : zW dscC l rm_X5_isPlace G X K u 0 [(0, .int v0)] [] := by
  unfold f_X5_isPlace at hf
  refine r_iload_n hC dX5_isPlace_0 0 rfl ?_
  refine r_iconst (v := 0) hC dX5_isPlace_1 (by decide) ?_
  refine r_bipush (v := 7) hC dX5_isPlace_2 (by decide) ?_
  refine r_csi (As := [.int v0, .int 0, .int 7]) (rest := []) hC c_X5_within ys_X5_within ml_RX5_83 ⟨by decide, by decide, rfl, rfl⟩ rfl rfl (Nat.le_of_ble_eq_true rfl) dX5_isPlace_4 ?_
  subst hf
  exact r_zret hC (bz_X5_within v0 0 7) dX5_isPlace_7 hk
set_option maxHeartbeats 4000000 in
set_option maxRecDepth 100000 in
theorem c_X5_isPlace {l : Launch} {G : zG} {u : zS} {v0 : Int32} : zM l dscC yX5_isPlace cX5_isPlace 1 (some .boolean) rm_X5_isPlace G [.int v0] u (some (.int (f_X5_isPlace v0))) u := zM.of (by decide) (Nat.le_of_ble_eq_true rfl) (fun X hC => t_X5_isPlace hC _ rfl ⟨rfl, rfl⟩)
set_option maxHeartbeats 4000000 in
set_option maxRecDepth 100000 in
theorem bz_X5_isPlace (v0 : Int32) : narrow .boolean (.int (f_X5_isPlace v0)) = .int (f_X5_isPlace v0) := by unfold f_X5_isPlace; exact (bz_X5_within v0 0 7)
set_option maxHeartbeats 4000000 in
set_option maxRecDepth 100000 in
theorem t_X5_bitOf {l : Launch} {G : zG} {X : zX} {K : Option Value → zS → Prop} (hC : zC G X cX5_bitOf 1 RX5 (some .int)) {u : zS} {v0 : Int32} (o : Int32) (hf : f_X5_bitOf v0 = o) (hk : K (some (.int o)) u) : zW dscC l rm_X5_bitOf G X K u 0 [(0, .int v0)] [] := by
  unfold f_X5_bitOf at hf
  refine r_iload_n hC dX5_bitOf_0 0 rfl ?_
  refine r_csi (As := [.int v0]) (rest := []) hC c_X5_isPlace ys_X5_isPlace ml_RX5_54 ⟨by decide, by decide, rfl, rfl⟩ rfl rfl (Nat.le_of_ble_eq_true rfl) dX5_bitOf_1 ?_
  refine r_if_eq (tgt := 13) hC dX5_bitOf_4 (by decide) (fun c1 => ?_) (fun c1 => ?_)
  · have hf := ite_t c1 hf
    refine r_iconst (v := 0) hC dX5_bitOf_13 (by decide) ?_
    subst hf
    exact r_iret hC dX5_bitOf_14 hk
  · have hf := ite_f c1 hf
    refine r_iconst (v := 1) hC dX5_bitOf_7 (by decide) ?_
    refine r_iload_n hC dX5_bitOf_8 0 rfl ?_
    refine r_ishl (x := 1) (y := v0) hC dX5_bitOf_9 ?_
    refine r_goto (tgt := 14) hC dX5_bitOf_10 (by decide) ?_
    subst hf
    exact r_iret hC dX5_bitOf_14 hk
set_option maxHeartbeats 4000000 in
set_option maxRecDepth 100000 in
theorem c_X5_bitOf {l : Launch} {G : zG} {u : zS} {v0 : Int32} : zM l dscC yX5_bitOf cX5_bitOf 1 (some .int) rm_X5_bitOf G [.int v0] u (some (.int (f_X5_bitOf v0))) u := zM.of (by decide) (Nat.le_of_ble_eq_true rfl) (fun X hC => t_X5_bitOf hC _ rfl ⟨rfl, rfl⟩)
set_option maxHeartbeats 4000000 in
set_option maxRecDepth 100000 in
theorem t_X1_standing_L4_B {l : Launch} {G : zG} {X : zX} {K : Option Value → zS → Prop} {b : Nat} (hC : zC G X cX1_standing 3 RX1 (some .int)) (hb : isR b) {N : Nat} {u : zS} {rec : Int32 → Int32 → Option (Int32)} (hrec : ∀ (v1 : Int32) (v2 : Int32) (o : Int32), rec v1 v2 = some o → zW dscC l rm_X1_standing G X K u 30 [(1, .int o)] [] → zW dscC l rm_X1_standing G X K u 4 [(0, .ref (G.1 b)), (1, .int v1), (2, .int v2)] []) : ∀ (v1 : Int32) (v2 : Int32) (o : Int32), f_X1_standing_L4_B N b u rec v1 v2 = some o → zW dscC l rm_X1_standing G X K u 30 [(1, .int o)] [] → zW dscC l rm_X1_standing G X K u 4 [(0, .ref (G.1 b)), (1, .int v1), (2, .int v2)] [] := by
  intro v1 v2 o hf hk
  unfold f_X1_standing_L4_B at hf
  refine r_iload_n hC dX1_standing_4 2 rfl ?_
  refine r_aload_n hC dX1_standing_5 0 rfl ?_
  refine r_geti hC fd_RX1_38 (dR_0 hb) rfl dX1_standing_6 ?_
  refine r_icmp_ge (tgt := 30) hC dX1_standing_9 (by decide) (fun c1 => ?_) (fun c1 => ?_)
  · have hf := ite_t c1 hf
    have hf := Option.some.inj hf
    subst hf
    refine r_loc [1] rfl ?_
    exact hk
  · have hf := ite_f c1 hf
    refine r_iload_n hC dX1_standing_12 1 rfl ?_
    refine r_aload_n hC dX1_standing_13 0 rfl ?_
    refine r_getr hC fd_RX1_9 (dR_0 hb) rfl dX1_standing_14 ?_
    refine r_iload_n hC dX1_standing_17 2 rfl ?_
    obtain ⟨g2, hf⟩ := og_in hf
    refine r_iald hC (dR_1 hb) g2 dX1_standing_18 ?_
    refine r_csni (As := [.int (u.1 (b + 1) (Int32.toNatClampNeg v2))]) (rest := [.int v1]) hC c_X5_bitOf ys_X5_bitOf mn_RX1_71 ⟨by decide, by decide, rfl, rfl⟩ rfl rfl (Nat.le_of_ble_eq_true rfl) dX1_standing_19 ?_
    refine r_ior hC dX1_standing_22 ?_
    refine r_topi (fun w3 ew3 => ?_)
    have hf := olet_at ew3 hf
    refine r_istore_n (lv' := [(1, .int w3), (0, .ref (G.1 b)), (2, .int v2)]) hC dX1_standing_23 rfl (by decide) rfl ?_
    refine r_iinc (v := 1) (lv' := [(2, .int (v2 + 1)), (1, .int w3), (0, .ref (G.1 b))]) hC dX1_standing_24 2 rfl (by decide) (by decide) rfl ?_
    refine r_goto (tgt := 4) hC dX1_standing_27 (by decide) ?_
    refine r_loc [2, 1, 0] rfl ?_
    exact hrec w3 (v2 + 1) o hf hk
set_option maxHeartbeats 4000000 in
set_option maxRecDepth 100000 in
theorem t_X1_standing_L4 {l : Launch} {G : zG} {X : zX} {K : Option Value → zS → Prop} {b : Nat} (hC : zC G X cX1_standing 3 RX1 (some .int)) (hb : isR b) {N : Nat} {u : zS} : ∀ (n : Nat) (v1 : Int32) (v2 : Int32) (o : Int32), f_X1_standing_L4 N b u n v1 v2 = some o → zW dscC l rm_X1_standing G X K u 30 [(1, .int o)] [] → zW dscC l rm_X1_standing G X K u 4 [(0, .ref (G.1 b)), (1, .int v1), (2, .int v2)] [] := by
  intro n
  induction n with
  | zero => intro v1 v2 o hf; cases hf
  | succ n ih => intro v1 v2 o hf hk; exact t_X1_standing_L4_B hC hb (rec := f_X1_standing_L4 N b u n) ih v1 v2 o hf hk
set_option maxHeartbeats 4000000 in
set_option maxRecDepth 100000 in
theorem t_X1_standing {l : Launch} {G : zG} {X : zX} {K : Option Value → zS → Prop} {b : Nat} (hC : zC G X cX1_standing 3 RX1 (some .int)) (hb : isR b) {N : Nat} {u : zS} (o : Int32) (hf : f_X1_standing N b u = some o) (hk : K (some (.int o)) u) : zW dscC l rm_X1_standing G X K u 0 [(0, .ref (G.1 b))] [] := by
  unfold f_X1_standing at hf
  refine r_iconst (v := 0) hC dX1_standing_0 (by decide) ?_
  refine r_istore_n (lv' := [(1, .int 0), (0, .ref (G.1 b))]) hC dX1_standing_1 rfl (by decide) rfl ?_
  refine r_iconst (v := 0) hC dX1_standing_2 (by decide) ?_
  refine r_istore_n (lv' := [(2, .int 0), (1, .int 0), (0, .ref (G.1 b))]) hC dX1_standing_3 rfl (by decide) rfl ?_
  refine r_loc [2, 1, 0] rfl ?_
  obtain ⟨q4, eq4, hf⟩ := ob_some hf
  refine t_X1_standing_L4 hC hb N 0 0 q4 eq4 ?_
  refine r_iload_n hC dX1_standing_30 0 rfl ?_
  have hf := Option.some.inj hf
  subst hf
  exact r_iret hC dX1_standing_31 hk
set_option maxHeartbeats 4000000 in
set_option maxRecDepth 100000 in
theorem c_X1_standing {l : Launch} {G : zG} {b : Nat} (hb : isR b) {N : Nat} {u : zS} {r : Int32} (hf : f_X1_standing N b u = some r) : zM l dscC yX1_standing cX1_standing 3 (some .int) rm_X1_standing G [.ref (G.1 b)] u (some (.int r)) u := zM.of (by decide) (Nat.le_of_ble_eq_true rfl) (fun X hC => t_X1_standing hC hb r hf ⟨rfl, rfl⟩)
set_option maxHeartbeats 4000000 in
set_option maxRecDepth 100000 in
theorem t_X1_goneOnes_L4_B {l : Launch} {G : zG} {X : zX} {K : Option Value → zS → Prop} {b : Nat} (hC : zC G X cX1_goneOnes 3 RX1 (some .int)) (hb : isR b) {N : Nat} {u : zS} {rec : Int32 → Int32 → Option (Int32)} (hrec : ∀ (v1 : Int32) (v2 : Int32) (o : Int32), rec v1 v2 = some o → zW dscC l rm_X1_goneOnes G X K u 35 [(1, .int o)] [] → zW dscC l rm_X1_goneOnes G X K u 4 [(0, .ref (G.1 b)), (1, .int v1), (2, .int v2)] []) : ∀ (v1 : Int32) (v2 : Int32) (o : Int32), f_X1_goneOnes_L4_B N b u rec v1 v2 = some o → zW dscC l rm_X1_goneOnes G X K u 35 [(1, .int o)] [] → zW dscC l rm_X1_goneOnes G X K u 4 [(0, .ref (G.1 b)), (1, .int v1), (2, .int v2)] [] := by
  intro v1 v2 o hf hk
  unfold f_X1_goneOnes_L4_B at hf
  refine r_iload_n hC dX1_goneOnes_4 2 rfl ?_
  refine r_aload_n hC dX1_goneOnes_5 0 rfl ?_
  refine r_geti hC fd_RX1_38 (dR_0 hb) rfl dX1_goneOnes_6 ?_
  refine r_icmp_ge (tgt := 35) hC dX1_goneOnes_9 (by decide) (fun c1 => ?_) (fun c1 => ?_)
  · have hf := ite_t c1 hf
    have hf := Option.some.inj hf
    subst hf
    refine r_loc [1] rfl ?_
    exact hk
  · have hf := ite_f c1 hf
    refine r_aload_n hC dX1_goneOnes_12 0 rfl ?_
    refine r_getr hC fd_RX1_9 (dR_0 hb) rfl dX1_goneOnes_13 ?_
    refine r_iload_n hC dX1_goneOnes_16 2 rfl ?_
    obtain ⟨g2, hf⟩ := og_in hf
    refine r_iald hC (dR_1 hb) g2 dX1_goneOnes_17 ?_
    refine r_bipush (v := (-4)) hC dX1_goneOnes_18 (by decide) ?_
    refine r_icmp_ne (tgt := 29) hC dX1_goneOnes_20 (by decide) (fun c3 => ?_) (fun c3 => ?_)
    · have hf := ite_f c3 hf
      refine r_iinc (v := 1) (lv' := [(2, .int (v2 + 1)), (0, .ref (G.1 b)), (1, .int v1)]) hC dX1_goneOnes_29 2 rfl (by decide) (by decide) rfl ?_
      refine r_goto (tgt := 4) hC dX1_goneOnes_32 (by decide) ?_
      refine r_loc [1, 2, 0] rfl ?_
      exact hrec v1 (v2 + 1) o hf hk
    · have hf := ite_t c3 hf
      refine r_iload_n hC dX1_goneOnes_23 1 rfl ?_
      refine r_iconst (v := 1) hC dX1_goneOnes_24 (by decide) ?_
      refine r_iload_n hC dX1_goneOnes_25 2 rfl ?_
      refine r_ishl (x := 1) (y := v2) hC dX1_goneOnes_26 ?_
      refine r_ior hC dX1_goneOnes_27 ?_
      refine r_topi (fun w4 ew4 => ?_)
      have hf := olet_at ew4 hf
      refine r_istore_n (lv' := [(1, .int w4), (0, .ref (G.1 b)), (2, .int v2)]) hC dX1_goneOnes_28 rfl (by decide) rfl ?_
      refine r_iinc (v := 1) (lv' := [(2, .int (v2 + 1)), (1, .int w4), (0, .ref (G.1 b))]) hC dX1_goneOnes_29 2 rfl (by decide) (by decide) rfl ?_
      refine r_goto (tgt := 4) hC dX1_goneOnes_32 (by decide) ?_
      refine r_loc [2, 1, 0] rfl ?_
      exact hrec w4 (v2 + 1) o hf hk
set_option maxHeartbeats 4000000 in
set_option maxRecDepth 100000 in
theorem t_X1_goneOnes_L4 {l : Launch} {G : zG} {X : zX} {K : Option Value → zS → Prop} {b : Nat} (hC : zC G X cX1_goneOnes 3 RX1 (some .int)) (hb : isR b) {N : Nat} {u : zS} : ∀ (n : Nat) (v1 : Int32) (v2 : Int32) (o : Int32), f_X1_goneOnes_L4 N b u n v1 v2 = some o → zW dscC l rm_X1_goneOnes G X K u 35 [(1, .int o)] [] → zW dscC l rm_X1_goneOnes G X K u 4 [(0, .ref (G.1 b)), (1, .int v1), (2, .int v2)] [] := by
  intro n
  induction n with
  | zero => intro v1 v2 o hf; cases hf
  | succ n ih => intro v1 v2 o hf hk; exact t_X1_goneOnes_L4_B hC hb (rec := f_X1_goneOnes_L4 N b u n) ih v1 v2 o hf hk
set_option maxHeartbeats 4000000 in
set_option maxRecDepth 100000 in
theorem t_X1_goneOnes {l : Launch} {G : zG} {X : zX} {K : Option Value → zS → Prop} {b : Nat} (hC : zC G X cX1_goneOnes 3 RX1 (some .int)) (hb : isR b) {N : Nat} {u : zS} (o : Int32) (hf : f_X1_goneOnes N b u = some o) (hk : K (some (.int o)) u) : zW dscC l rm_X1_goneOnes G X K u 0 [(0, .ref (G.1 b))] [] := by
  unfold f_X1_goneOnes at hf
  refine r_iconst (v := 0) hC dX1_goneOnes_0 (by decide) ?_
  refine r_istore_n (lv' := [(1, .int 0), (0, .ref (G.1 b))]) hC dX1_goneOnes_1 rfl (by decide) rfl ?_
  refine r_iconst (v := 0) hC dX1_goneOnes_2 (by decide) ?_
  refine r_istore_n (lv' := [(2, .int 0), (1, .int 0), (0, .ref (G.1 b))]) hC dX1_goneOnes_3 rfl (by decide) rfl ?_
  refine r_loc [2, 1, 0] rfl ?_
  obtain ⟨q5, eq5, hf⟩ := ob_some hf
  refine t_X1_goneOnes_L4 hC hb N 0 0 q5 eq5 ?_
  refine r_iload_n hC dX1_goneOnes_35 0 rfl ?_
  have hf := Option.some.inj hf
  subst hf
  exact r_iret hC dX1_goneOnes_36 hk
set_option maxHeartbeats 4000000 in
set_option maxRecDepth 100000 in
theorem c_X1_goneOnes {l : Launch} {G : zG} {b : Nat} (hb : isR b) {N : Nat} {u : zS} {r : Int32} (hf : f_X1_goneOnes N b u = some r) : zM l dscC yX1_goneOnes cX1_goneOnes 3 (some .int) rm_X1_goneOnes G [.ref (G.1 b)] u (some (.int r)) u := zM.of (by decide) (Nat.le_of_ble_eq_true rfl) (fun X hC => t_X1_goneOnes hC hb r hf ⟨rfl, rfl⟩)
set_option maxHeartbeats 4000000 in
set_option maxRecDepth 100000 in
theorem t_X1_ledBy {l : Launch} {G : zG} {X : zX} {K : Option Value → zS → Prop} {b : Nat} (hC : zC G X cX1_ledBy 3 RX1 (some .int)) (hb : isR b) {u : zS} {v1 : Int32} {v2 : Int32} (o : Int32) (hf : f_X1_ledBy b u v1 v2 = some o) (hk : K (some (.int o)) u) : zW dscC l rm_X1_ledBy G X K u 0 [(0, .ref (G.1 b)), (1, .int v1), (2, .int v2)] [] := by
  unfold f_X1_ledBy at hf
  refine r_aload_n hC dX1_ledBy_0 0 rfl ?_
  refine r_getr hC fd_RX1_21 (dR_0 hb) rfl dX1_ledBy_1 ?_
  refine r_iload_n hC dX1_ledBy_4 1 rfl ?_
  refine r_bipush (v := 8) hC dX1_ledBy_5 (by decide) ?_
  refine r_imul hC dX1_ledBy_7 ?_
  refine r_iload_n hC dX1_ledBy_8 2 rfl ?_
  refine r_iadd hC dX1_ledBy_9 ?_
  obtain ⟨g1, hf⟩ := og_in hf
  refine r_iald hC (dR_4 hb) g1 dX1_ledBy_10 ?_
  have hf := Option.some.inj hf
  subst hf
  exact r_iret hC dX1_ledBy_11 hk
set_option maxHeartbeats 4000000 in
set_option maxRecDepth 100000 in
theorem c_X1_ledBy {l : Launch} {G : zG} {b : Nat} (hb : isR b) {u : zS} {v1 : Int32} {v2 : Int32} {r : Int32} (hf : f_X1_ledBy b u v1 v2 = some r) : zM l dscC yX1_ledBy cX1_ledBy 3 (some .int) rm_X1_ledBy G [.ref (G.1 b), .int v1, .int v2] u (some (.int r)) u := zM.of (by decide) (Nat.le_of_ble_eq_true rfl) (fun X hC => t_X1_ledBy hC hb r hf ⟨rfl, rfl⟩)
set_option maxHeartbeats 4000000 in
set_option maxRecDepth 100000 in
theorem t_X5_holds {l : Launch} {G : zG} {X : zX} {K : Option Value → zS → Prop} (hC : zC G X cX5_holds 2 RX5 (some .boolean)) {u : zS} {v0 : Int32} {v1 : Int32} (o : Int32) (hf : f_X5_holds v0 v1 = o) (hk : K (some (.int o)) u) : zW dscC l rm_X5_holds G X K u 0 [(0, .int v0), (1, .int v1)] [] := by
  unfold f_X5_holds at hf
  refine r_iload_n hC dX5_holds_0 0 rfl ?_
  refine r_iload_n hC dX5_holds_1 1 rfl ?_
  refine r_csi (As := [.int v1]) (rest := [.int v0]) hC c_X5_leftBy8 ys_X5_leftBy8 ml_RX5_291 ⟨by decide, by decide, rfl, rfl⟩ rfl rfl (Nat.le_of_ble_eq_true rfl) dX5_holds_2 ?_
  refine r_ishr (x := v0) (y := (f_X5_leftBy8 v1)) hC dX5_holds_5 ?_
  refine r_iconst (v := 1) hC dX5_holds_6 (by decide) ?_
  refine r_iand hC dX5_holds_7 ?_
  refine r_if_eq (tgt := 15) hC dX5_holds_8 (by decide) (fun c1 => ?_) (fun c1 => ?_)
  · have hf := ite_t c1 hf
    refine r_iconst (v := 0) hC dX5_holds_15 (by decide) ?_
    subst hf
    exact r_zret hC rfl dX5_holds_16 hk
  · have hf := ite_f c1 hf
    refine r_iconst (v := 1) hC dX5_holds_11 (by decide) ?_
    refine r_goto (tgt := 16) hC dX5_holds_12 (by decide) ?_
    subst hf
    exact r_zret hC rfl dX5_holds_16 hk
set_option maxHeartbeats 4000000 in
set_option maxRecDepth 100000 in
theorem c_X5_holds {l : Launch} {G : zG} {u : zS} {v0 : Int32} {v1 : Int32} : zM l dscC yX5_holds cX5_holds 2 (some .boolean) rm_X5_holds G [.int v0, .int v1] u (some (.int (f_X5_holds v0 v1))) u := zM.of (by decide) (Nat.le_of_ble_eq_true rfl) (fun X hC => t_X5_holds hC _ rfl ⟨rfl, rfl⟩)
set_option maxHeartbeats 4000000 in
set_option maxRecDepth 100000 in
theorem bz_X5_holds (v0 : Int32) (v1 : Int32) : narrow .boolean (.int (f_X5_holds v0 v1)) = .int (f_X5_holds v0 v1) := zz_nar (by unfold f_X5_holds; (repeat' split) <;> simp)
set_option maxHeartbeats 4000000 in
set_option maxRecDepth 100000 in
theorem t_X1_setLedBy_L5_B {l : Launch} {G : zG} {X : zX} {K : Option Value → zS → Prop} {b : Nat} (hC : zC G X cX1_setLedBy 5 RX1 (some .int)) (hb : isR b) {N : Nat} {u : zS} {v1 : Int32} {v2 : Int32} {rec : Int32 → Int32 → Option (Int32)} (hrec : ∀ (v3 : Int32) (v4 : Int32) (o : Int32), rec v3 v4 = some o → zW dscC l rm_X1_setLedBy G X K u 40 [(3, .int o)] [] → zW dscC l rm_X1_setLedBy G X K u 5 [(0, .ref (G.1 b)), (1, .int v1), (2, .int v2), (3, .int v3), (4, .int v4)] []) : ∀ (v3 : Int32) (v4 : Int32) (o : Int32), f_X1_setLedBy_L5_B N b u v1 v2 rec v3 v4 = some o → zW dscC l rm_X1_setLedBy G X K u 40 [(3, .int o)] [] → zW dscC l rm_X1_setLedBy G X K u 5 [(0, .ref (G.1 b)), (1, .int v1), (2, .int v2), (3, .int v3), (4, .int v4)] [] := by
  intro v3 v4 o hf hk
  unfold f_X1_setLedBy_L5_B at hf
  refine r_iload hC dX1_setLedBy_5 4 rfl ?_
  refine r_bipush (v := 8) hC dX1_setLedBy_7 (by decide) ?_
  refine r_icmp_ge (tgt := 40) hC dX1_setLedBy_9 (by decide) (fun c1 => ?_) (fun c1 => ?_)
  · have hf := ite_t c1 hf
    have hf := Option.some.inj hf
    subst hf
    refine r_loc [3] rfl ?_
    exact hk
  · have hf := ite_f c1 hf
    refine r_iload_n hC dX1_setLedBy_12 2 rfl ?_
    refine r_iload hC dX1_setLedBy_13 4 rfl ?_
    refine r_csni (As := [.int v2, .int v4]) (rest := []) hC c_X5_holds ys_X5_holds mn_RX1_75 ⟨by decide, by decide, rfl, rfl⟩ rfl rfl (Nat.le_of_ble_eq_true rfl) dX1_setLedBy_15 ?_
    refine r_if_eq (tgt := 34) hC dX1_setLedBy_18 (by decide) (fun c2 => ?_) (fun c2 => ?_)
    · have hf := ite_t c2 hf
      refine r_iinc (v := 1) (lv' := [(4, .int (v4 + 1)), (0, .ref (G.1 b)), (1, .int v1), (2, .int v2), (3, .int v3)]) hC dX1_setLedBy_34 4 rfl (by decide) (by decide) rfl ?_
      refine r_goto (tgt := 5) hC dX1_setLedBy_37 (by decide) ?_
      refine r_loc [1, 2, 3, 4, 0] rfl ?_
      exact hrec v3 (v4 + 1) o hf hk
    · have hf := ite_f c2 hf
      refine r_iload_n hC dX1_setLedBy_21 3 rfl ?_
      refine r_aload_n hC dX1_setLedBy_22 0 rfl ?_
      refine r_iload_n hC dX1_setLedBy_23 1 rfl ?_
      refine r_iload hC dX1_setLedBy_24 4 rfl ?_
      obtain ⟨r3, er3, hf⟩ := ob_some hf
      refine r_cvi (As := [.int v1, .int v4]) (rest := [.int v3]) hC (c_X1_ledBy hb er3) yv_X1_ledBy ml_RX1_79 (dR_0 hb) ⟨by decide, by decide, rfl, rfl⟩ rfl rfl (Nat.le_of_ble_eq_true rfl) dX1_setLedBy_26 ?_
      refine r_csni (As := [.int r3]) (rest := [.int v3]) hC c_X5_bitOf ys_X5_bitOf mn_RX1_71 ⟨by decide, by decide, rfl, rfl⟩ rfl rfl (Nat.le_of_ble_eq_true rfl) dX1_setLedBy_29 ?_
      refine r_ior hC dX1_setLedBy_32 ?_
      refine r_topi (fun w4 ew4 => ?_)
      have hf := olet_at ew4 hf
      refine r_istore_n (lv' := [(3, .int w4), (0, .ref (G.1 b)), (1, .int v1), (2, .int v2), (4, .int v4)]) hC dX1_setLedBy_33 rfl (by decide) rfl ?_
      refine r_iinc (v := 1) (lv' := [(4, .int (v4 + 1)), (3, .int w4), (0, .ref (G.1 b)), (1, .int v1), (2, .int v2)]) hC dX1_setLedBy_34 4 rfl (by decide) (by decide) rfl ?_
      refine r_goto (tgt := 5) hC dX1_setLedBy_37 (by decide) ?_
      refine r_loc [2, 3, 4, 1, 0] rfl ?_
      exact hrec w4 (v4 + 1) o hf hk
set_option maxHeartbeats 4000000 in
set_option maxRecDepth 100000 in
theorem t_X1_setLedBy_L5 {l : Launch} {G : zG} {X : zX} {K : Option Value → zS → Prop} {b : Nat} (hC : zC G X cX1_setLedBy 5 RX1 (some .int)) (hb : isR b) {N : Nat} {u : zS} {v1 : Int32} {v2 : Int32} : ∀ (n : Nat) (v3 : Int32) (v4 : Int32) (o : Int32), f_X1_setLedBy_L5 N b u v1 v2 n v3 v4 = some o → zW dscC l rm_X1_setLedBy G X K u 40 [(3, .int o)] [] → zW dscC l rm_X1_setLedBy G X K u 5 [(0, .ref (G.1 b)), (1, .int v1), (2, .int v2), (3, .int v3), (4, .int v4)] [] := by
  intro n
  induction n with
  | zero => intro v3 v4 o hf; cases hf
  | succ n ih => intro v3 v4 o hf hk; exact t_X1_setLedBy_L5_B hC hb (rec := f_X1_setLedBy_L5 N b u v1 v2 n) ih v3 v4 o hf hk
set_option maxHeartbeats 4000000 in
set_option maxRecDepth 100000 in
theorem t_X1_setLedBy {l : Launch} {G : zG} {X : zX} {K : Option Value → zS → Prop} {b : Nat} (hC : zC G X cX1_setLedBy 5 RX1 (some .int)) (hb : isR b) {N : Nat} {u : zS} {v1 : Int32} {v2 : Int32} (o : Int32) (hf : f_X1_setLedBy N b u v1 v2 = some o) (hk : K (some (.int o)) u) : zW dscC l rm_X1_setLedBy G X K u 0 [(0, .ref (G.1 b)), (1, .int v1), (2, .int v2)] [] := by
  unfold f_X1_setLedBy at hf
  refine r_iconst (v := 0) hC dX1_setLedBy_0 (by decide) ?_
  refine r_istore_n (lv' := [(3, .int 0), (0, .ref (G.1 b)), (1, .int v1), (2, .int v2)]) hC dX1_setLedBy_1 rfl (by decide) rfl ?_
  refine r_iconst (v := 0) hC dX1_setLedBy_2 (by decide) ?_
  refine r_istore (lv' := [(4, .int 0), (3, .int 0), (0, .ref (G.1 b)), (1, .int v1), (2, .int v2)]) hC dX1_setLedBy_3 (by decide) rfl ?_
  refine r_loc [2, 3, 4, 1, 0] rfl ?_
  obtain ⟨q5, eq5, hf⟩ := ob_some hf
  refine t_X1_setLedBy_L5 hC hb N 0 0 q5 eq5 ?_
  refine r_iload_n hC dX1_setLedBy_40 0 rfl ?_
  have hf := Option.some.inj hf
  subst hf
  exact r_iret hC dX1_setLedBy_41 hk
set_option maxHeartbeats 4000000 in
set_option maxRecDepth 100000 in
theorem c_X1_setLedBy {l : Launch} {G : zG} {b : Nat} (hb : isR b) {N : Nat} {u : zS} {v1 : Int32} {v2 : Int32} {r : Int32} (hf : f_X1_setLedBy N b u v1 v2 = some r) : zM l dscC yX1_setLedBy cX1_setLedBy 5 (some .int) rm_X1_setLedBy G [.ref (G.1 b), .int v1, .int v2] u (some (.int r)) u := zM.of (by decide) (Nat.le_of_ble_eq_true rfl) (fun X hC => t_X1_setLedBy hC hb r hf ⟨rfl, rfl⟩)
set_option maxHeartbeats 4000000 in
set_option maxRecDepth 100000 in
theorem t_X1_turnsTillBack_L10_B {l : Launch} {G : zG} {X : zX} {K : Option Value → zS → Prop} {b : Nat} (hC : zC G X cX1_turnsTillBack 5 RX1 (some .int)) (hb : isR b) {N : Nat} {u : zS} {v1 : Int32} {v2 : Int32} {rec : Int32 → Int32 → Option (Int32)} (hrec : ∀ (v3 : Int32) (v4 : Int32) (o : Int32), rec v3 v4 = some o → zW dscC l rm_X1_turnsTillBack G X K u 37 [(3, .int o)] [] → zW dscC l rm_X1_turnsTillBack G X K u 10 [(0, .ref (G.1 b)), (1, .int v1), (2, .int v2), (3, .int v3), (4, .int v4)] []) : ∀ (v3 : Int32) (v4 : Int32) (o : Int32), f_X1_turnsTillBack_L10_B N b u v1 v2 rec v3 v4 = some o → zW dscC l rm_X1_turnsTillBack G X K u 37 [(3, .int o)] [] → zW dscC l rm_X1_turnsTillBack G X K u 10 [(0, .ref (G.1 b)), (1, .int v1), (2, .int v2), (3, .int v3), (4, .int v4)] [] := by
  intro v3 v4 o hf hk
  unfold f_X1_turnsTillBack_L10_B at hf
  refine r_iload_n hC dX1_turnsTillBack_10 3 rfl ?_
  refine r_bipush (v := 8) hC dX1_turnsTillBack_11 (by decide) ?_
  refine r_icmp_ge (tgt := 37) hC dX1_turnsTillBack_13 (by decide) (fun c2 => ?_) (fun c2 => ?_)
  · have hf := ite_t c2 hf
    have hf := Option.some.inj hf
    subst hf
    refine r_loc [3] rfl ?_
    exact hk
  · have hf := ite_f c2 hf
    refine r_iload hC dX1_turnsTillBack_16 4 rfl ?_
    refine r_iload_n hC dX1_turnsTillBack_18 2 rfl ?_
    refine r_icmp_eq (tgt := 37) hC dX1_turnsTillBack_19 (by decide) (fun c3 => ?_) (fun c3 => ?_)
    · have hf := ite_t c3 hf
      have hf := Option.some.inj hf
      subst hf
      refine r_loc [3] rfl ?_
      exact hk
    · have hf := ite_f c3 hf
      refine r_aload_n hC dX1_turnsTillBack_22 0 rfl ?_
      refine r_iload_n hC dX1_turnsTillBack_23 1 rfl ?_
      refine r_iload hC dX1_turnsTillBack_24 4 rfl ?_
      obtain ⟨r4, er4, hf⟩ := ob_some hf
      refine r_cvi (As := [.int v1, .int v4]) (rest := []) hC (c_X1_ledBy hb er4) yv_X1_ledBy ml_RX1_79 (dR_0 hb) ⟨by decide, by decide, rfl, rfl⟩ rfl rfl (Nat.le_of_ble_eq_true rfl) dX1_turnsTillBack_26 ?_
      refine r_istore (lv' := [(4, .int r4), (0, .ref (G.1 b)), (1, .int v1), (2, .int v2), (3, .int v3)]) hC dX1_turnsTillBack_29 (by decide) rfl ?_
      refine r_iinc (v := 1) (lv' := [(3, .int (v3 + 1)), (4, .int r4), (0, .ref (G.1 b)), (1, .int v1), (2, .int v2)]) hC dX1_turnsTillBack_31 4 rfl (by decide) (by decide) rfl ?_
      refine r_goto (tgt := 10) hC dX1_turnsTillBack_34 (by decide) ?_
      refine r_loc [2, 3, 4, 0, 1] rfl ?_
      exact hrec (v3 + 1) r4 o hf hk
set_option maxHeartbeats 4000000 in
set_option maxRecDepth 100000 in
theorem t_X1_turnsTillBack_L10 {l : Launch} {G : zG} {X : zX} {K : Option Value → zS → Prop} {b : Nat} (hC : zC G X cX1_turnsTillBack 5 RX1 (some .int)) (hb : isR b) {N : Nat} {u : zS} {v1 : Int32} {v2 : Int32} : ∀ (n : Nat) (v3 : Int32) (v4 : Int32) (o : Int32), f_X1_turnsTillBack_L10 N b u v1 v2 n v3 v4 = some o → zW dscC l rm_X1_turnsTillBack G X K u 37 [(3, .int o)] [] → zW dscC l rm_X1_turnsTillBack G X K u 10 [(0, .ref (G.1 b)), (1, .int v1), (2, .int v2), (3, .int v3), (4, .int v4)] [] := by
  intro n
  induction n with
  | zero => intro v3 v4 o hf; cases hf
  | succ n ih => intro v3 v4 o hf hk; exact t_X1_turnsTillBack_L10_B hC hb (rec := f_X1_turnsTillBack_L10 N b u v1 v2 n) ih v3 v4 o hf hk
set_option maxHeartbeats 4000000 in
set_option maxRecDepth 100000 in
theorem t_X1_turnsTillBack {l : Launch} {G : zG} {X : zX} {K : Option Value → zS → Prop} {b : Nat} (hC : zC G X cX1_turnsTillBack 5 RX1 (some .int)) (hb : isR b) {N : Nat} {u : zS} {v1 : Int32} {v2 : Int32} (o : Int32) (hf : f_X1_turnsTillBack N b u v1 v2 = some o) (hk : K (some (.int o)) u) : zW dscC l rm_X1_turnsTillBack G X K u 0 [(0, .ref (G.1 b)), (1, .int v1), (2, .int v2)] [] := by
  unfold f_X1_turnsTillBack at hf
  refine r_iconst (v := 1) hC dX1_turnsTillBack_0 (by decide) ?_
  refine r_istore_n (lv' := [(3, .int 1), (0, .ref (G.1 b)), (1, .int v1), (2, .int v2)]) hC dX1_turnsTillBack_1 rfl (by decide) rfl ?_
  refine r_aload_n hC dX1_turnsTillBack_2 1 rfl ?_
  refine r_iload_n hC dX1_turnsTillBack_3 2 rfl ?_
  refine r_iload_n hC dX1_turnsTillBack_4 3 rfl ?_
  obtain ⟨r1, er1, hf⟩ := ob_some hf
  refine r_cvi (As := [.int v1, .int v2]) (rest := []) hC (c_X1_ledBy hb er1) yv_X1_ledBy ml_RX1_79 (dR_0 hb) ⟨by decide, by decide, rfl, rfl⟩ rfl rfl (Nat.le_of_ble_eq_true rfl) dX1_turnsTillBack_5 ?_
  refine r_istore (lv' := [(4, .int r1), (3, .int 1), (0, .ref (G.1 b)), (1, .int v1), (2, .int v2)]) hC dX1_turnsTillBack_8 (by decide) rfl ?_
  refine r_loc [2, 3, 4, 1, 0] rfl ?_
  obtain ⟨q5, eq5, hf⟩ := ob_some hf
  refine t_X1_turnsTillBack_L10 hC hb N 1 r1 q5 eq5 ?_
  refine r_iload_n hC dX1_turnsTillBack_37 0 rfl ?_
  have hf := Option.some.inj hf
  subst hf
  exact r_iret hC dX1_turnsTillBack_38 hk
set_option maxHeartbeats 4000000 in
set_option maxRecDepth 100000 in
theorem c_X1_turnsTillBack {l : Launch} {G : zG} {b : Nat} (hb : isR b) {N : Nat} {u : zS} {v1 : Int32} {v2 : Int32} {r : Int32} (hf : f_X1_turnsTillBack N b u v1 v2 = some r) : zM l dscC yX1_turnsTillBack cX1_turnsTillBack 5 (some .int) rm_X1_turnsTillBack G [.ref (G.1 b), .int v1, .int v2] u (some (.int r)) u := zM.of (by decide) (Nat.le_of_ble_eq_true rfl) (fun X hC => t_X1_turnsTillBack hC hb r hf ⟨rfl, rfl⟩)
set_option maxHeartbeats 4000000 in
set_option maxRecDepth 100000 in
theorem t_X5_greatestCommon_L7_B {l : Launch} {G : zG} {X : zX} {K : Option Value → zS → Prop} (hC : zC G X cX5_greatestCommon 6 RX5 (some .int)) {N : Nat} {u : zS} {rec : Int32 → Int32 → Int32 → Option (Int32)} (hrec : ∀ (v2 : Int32) (v3 : Int32) (v4 : Int32) (o : Int32), rec v2 v3 v4 = some o → zW dscC l rm_X5_greatestCommon G X K u 34 [(2, .int o)] [] → zW dscC l rm_X5_greatestCommon G X K u 7 [(2, .int v2), (3, .int v3), (4, .int v4)] []) : ∀ (v2 : Int32) (v3 : Int32) (v4 : Int32) (o : Int32), f_X5_greatestCommon_L7_B N rec v2 v3 v4 = some o → zW dscC l rm_X5_greatestCommon G X K u 34 [(2, .int o)] [] → zW dscC l rm_X5_greatestCommon G X K u 7 [(2, .int v2), (3, .int v3), (4, .int v4)] [] := by
  intro v2 v3 v4 o hf hk
  unfold f_X5_greatestCommon_L7_B at hf
  refine r_iload hC dX5_greatestCommon_7 2 rfl ?_
  refine r_bipush (v := 64) hC dX5_greatestCommon_9 (by decide) ?_
  refine r_icmp_ge (tgt := 34) hC dX5_greatestCommon_11 (by decide) (fun c1 => ?_) (fun c1 => ?_)
  · have hf := ite_t c1 hf
    have hf := Option.some.inj hf
    subst hf
    refine r_loc [0] rfl ?_
    exact hk
  · have hf := ite_f c1 hf
    refine r_iload_n hC dX5_greatestCommon_14 1 rfl ?_
    refine r_if_eq (tgt := 34) hC dX5_greatestCommon_15 (by decide) (fun c2 => ?_) (fun c2 => ?_)
    · have hf := ite_t c2 hf
      have hf := Option.some.inj hf
      subst hf
      refine r_loc [0] rfl ?_
      exact hk
    · have hf := ite_f c2 hf
      refine r_iload_n hC dX5_greatestCommon_18 0 rfl ?_
      refine r_iload_n hC dX5_greatestCommon_19 1 rfl ?_
      obtain ⟨g3, hf⟩ := og_ne hf
      refine r_irem (x := v2) (y := v3) hC dX5_greatestCommon_20 g3 ?_
      refine r_istore (lv' := [(5, .int (v2 - v2 / v3 * v3)), (2, .int v2), (3, .int v3), (4, .int v4)]) hC dX5_greatestCommon_21 (by decide) rfl ?_
      refine r_iload_n hC dX5_greatestCommon_23 2 rfl ?_
      refine r_istore_n (lv' := [(2, .int v3), (5, .int (v2 - v2 / v3 * v3)), (3, .int v3), (4, .int v4)]) hC dX5_greatestCommon_24 rfl (by decide) rfl ?_
      refine r_iload hC dX5_greatestCommon_25 1 rfl ?_
      refine r_topi (fun w4 ew4 => ?_)
      have hf := olet_at ew4 hf
      refine r_istore_n (lv' := [(3, .int w4), (2, .int v3), (5, .int (v2 - v2 / v3 * v3)), (4, .int v4)]) hC dX5_greatestCommon_27 rfl (by decide) rfl ?_
      refine r_iinc (v := 1) (lv' := [(4, .int (v4 + 1)), (3, .int w4), (2, .int v3), (5, .int (v2 - v2 / v3 * v3))]) hC dX5_greatestCommon_28 3 rfl (by decide) (by decide) rfl ?_
      refine r_goto (tgt := 7) hC dX5_greatestCommon_31 (by decide) ?_
      refine r_loc [2, 1, 0] rfl ?_
      exact hrec v3 w4 (v4 + 1) o hf hk
set_option maxHeartbeats 4000000 in
set_option maxRecDepth 100000 in
theorem t_X5_greatestCommon_L7 {l : Launch} {G : zG} {X : zX} {K : Option Value → zS → Prop} (hC : zC G X cX5_greatestCommon 6 RX5 (some .int)) {N : Nat} {u : zS} : ∀ (n : Nat) (v2 : Int32) (v3 : Int32) (v4 : Int32) (o : Int32), f_X5_greatestCommon_L7 N n v2 v3 v4 = some o → zW dscC l rm_X5_greatestCommon G X K u 34 [(2, .int o)] [] → zW dscC l rm_X5_greatestCommon G X K u 7 [(2, .int v2), (3, .int v3), (4, .int v4)] [] := by
  intro n
  induction n with
  | zero => intro v2 v3 v4 o hf; cases hf
  | succ n ih => intro v2 v3 v4 o hf hk; exact t_X5_greatestCommon_L7_B hC (rec := f_X5_greatestCommon_L7 N n) ih v2 v3 v4 o hf hk
set_option maxHeartbeats 4000000 in
set_option maxRecDepth 100000 in
theorem t_X5_greatestCommon {l : Launch} {G : zG} {X : zX} {K : Option Value → zS → Prop} (hC : zC G X cX5_greatestCommon 6 RX5 (some .int)) {N : Nat} {u : zS} {v0 : Int32} {v1 : Int32} (o : Int32) (hf : f_X5_greatestCommon N v0 v1 = some o) (hk : K (some (.int o)) u) : zW dscC l rm_X5_greatestCommon G X K u 0 [(0, .int v0), (1, .int v1)] [] := by
  unfold f_X5_greatestCommon at hf
  refine r_iload_n hC dX5_greatestCommon_0 0 rfl ?_
  refine r_istore_n (lv' := [(2, .int v0), (0, .int v0), (1, .int v1)]) hC dX5_greatestCommon_1 rfl (by decide) rfl ?_
  refine r_iload_n hC dX5_greatestCommon_2 2 rfl ?_
  refine r_istore_n (lv' := [(3, .int v1), (2, .int v0), (0, .int v0), (1, .int v1)]) hC dX5_greatestCommon_3 rfl (by decide) rfl ?_
  refine r_iconst (v := 0) hC dX5_greatestCommon_4 (by decide) ?_
  refine r_istore (lv' := [(4, .int 0), (3, .int v1), (2, .int v0), (0, .int v0), (1, .int v1)]) hC dX5_greatestCommon_5 (by decide) rfl ?_
  refine r_loc [2, 1, 0] rfl ?_
  obtain ⟨q5, eq5, hf⟩ := ob_some hf
  refine t_X5_greatestCommon_L7 hC N v0 v1 0 q5 eq5 ?_
  refine r_iload_n hC dX5_greatestCommon_34 0 rfl ?_
  have hf := Option.some.inj hf
  subst hf
  exact r_iret hC dX5_greatestCommon_35 hk
set_option maxHeartbeats 4000000 in
set_option maxRecDepth 100000 in
theorem c_X5_greatestCommon {l : Launch} {G : zG} {N : Nat} {u : zS} {v0 : Int32} {v1 : Int32} {r : Int32} (hf : f_X5_greatestCommon N v0 v1 = some r) : zM l dscC yX5_greatestCommon cX5_greatestCommon 6 (some .int) rm_X5_greatestCommon G [.int v0, .int v1] u (some (.int r)) u := zM.of (by decide) (Nat.le_of_ble_eq_true rfl) (fun X hC => t_X5_greatestCommon hC r hf ⟨rfl, rfl⟩)
set_option maxHeartbeats 4000000 in
set_option maxRecDepth 100000 in
theorem t_X1_orderOf_L4_B {l : Launch} {G : zG} {X : zX} {K : Option Value → zS → Prop} {b : Nat} (hC : zC G X cX1_orderOf 6 RX1 (some .int)) (hb : isR b) {N : Nat} {u : zS} {v1 : Int32} {rec : Int32 → Int32 → Option (Int32)} (hrec : ∀ (v2 : Int32) (v3 : Int32) (o : Int32), rec v2 v3 = some o → zW dscC l rm_X1_orderOf G X K u 45 [(2, .int o)] [] → zW dscC l rm_X1_orderOf G X K u 4 [(0, .ref (G.1 b)), (1, .int v1), (2, .int v2), (3, .int v3)] []) : ∀ (v2 : Int32) (v3 : Int32) (o : Int32), f_X1_orderOf_L4_B N b u v1 rec v2 v3 = some o → zW dscC l rm_X1_orderOf G X K u 45 [(2, .int o)] [] → zW dscC l rm_X1_orderOf G X K u 4 [(0, .ref (G.1 b)), (1, .int v1), (2, .int v2), (3, .int v3)] [] := by
  intro v2 v3 o hf hk
  unfold f_X1_orderOf_L4_B at hf
  refine r_iload_n hC dX1_orderOf_4 3 rfl ?_
  refine r_bipush (v := 8) hC dX1_orderOf_5 (by decide) ?_
  refine r_icmp_ge (tgt := 45) hC dX1_orderOf_7 (by decide) (fun c1 => ?_) (fun c1 => ?_)
  · have hf := ite_t c1 hf
    have hf := Option.some.inj hf
    subst hf
    refine r_loc [2] rfl ?_
    exact hk
  · have hf := ite_f c1 hf
    refine r_aload_n hC dX1_orderOf_10 0 rfl ?_
    refine r_iload_n hC dX1_orderOf_11 1 rfl ?_
    refine r_iload_n hC dX1_orderOf_12 3 rfl ?_
    obtain ⟨r2, er2, hf⟩ := ob_some hf
    refine r_cvi (As := [.int v1, .int v3]) (rest := []) hC (c_X1_turnsTillBack hb er2) yv_X1_turnsTillBack ml_RX1_83 (dR_0 hb) ⟨by decide, by decide, rfl, rfl⟩ rfl rfl (Nat.le_of_ble_eq_true rfl) dX1_orderOf_13 ?_
    refine r_istore (lv' := [(4, .int r2), (0, .ref (G.1 b)), (1, .int v1), (2, .int v2), (3, .int v3)]) hC dX1_orderOf_16 (by decide) rfl ?_
    refine r_iload_n hC dX1_orderOf_18 3 rfl ?_
    refine r_iload hC dX1_orderOf_19 0 rfl ?_
    obtain ⟨r3, er3, hf⟩ := ob_some hf
    refine r_csni (As := [.int v2, .int r2]) (rest := []) hC (c_X5_greatestCommon er3) ys_X5_greatestCommon mn_RX1_86 ⟨by decide, by decide, rfl, rfl⟩ rfl rfl (Nat.le_of_ble_eq_true rfl) dX1_orderOf_21 ?_
    refine r_istore (lv' := [(5, .int r3), (4, .int r2), (0, .ref (G.1 b)), (1, .int v1), (2, .int v2), (3, .int v3)]) hC dX1_orderOf_24 (by decide) rfl ?_
    refine r_iload hC dX1_orderOf_26 0 rfl ?_
    refine r_if_le (tgt := 39) hC dX1_orderOf_28 (by decide) (fun c4 => ?_) (fun c4 => ?_)
    · have hf := ite_t c4 hf
      refine r_iinc (v := 1) (lv' := [(3, .int (v3 + 1)), (5, .int r3), (4, .int r2), (0, .ref (G.1 b)), (1, .int v1), (2, .int v2)]) hC dX1_orderOf_39 5 rfl (by decide) (by decide) rfl ?_
      refine r_goto (tgt := 4) hC dX1_orderOf_42 (by decide) ?_
      refine r_loc [3, 4, 5, 0] rfl ?_
      exact hrec v2 (v3 + 1) o hf hk
    · have hf := ite_f c4 hf
      refine r_iload_n hC dX1_orderOf_31 4 rfl ?_
      refine r_iload hC dX1_orderOf_32 0 rfl ?_
      obtain ⟨g5, hf⟩ := og_ne hf
      refine r_idiv (x := v2) (y := r3) hC dX1_orderOf_34 g5 ?_
      refine r_iload hC dX1_orderOf_35 1 rfl ?_
      refine r_imul hC dX1_orderOf_37 ?_
      refine r_topi (fun w6 ew6 => ?_)
      have hf := olet_at ew6 hf
      refine r_istore_n (lv' := [(2, .int w6), (5, .int r3), (4, .int r2), (0, .ref (G.1 b)), (1, .int v1), (3, .int v3)]) hC dX1_orderOf_38 rfl (by decide) rfl ?_
      refine r_iinc (v := 1) (lv' := [(3, .int (v3 + 1)), (2, .int w6), (5, .int r3), (4, .int r2), (0, .ref (G.1 b)), (1, .int v1)]) hC dX1_orderOf_39 5 rfl (by decide) (by decide) rfl ?_
      refine r_goto (tgt := 4) hC dX1_orderOf_42 (by decide) ?_
      refine r_loc [4, 5, 1, 0] rfl ?_
      exact hrec w6 (v3 + 1) o hf hk
set_option maxHeartbeats 4000000 in
set_option maxRecDepth 100000 in
theorem t_X1_orderOf_L4 {l : Launch} {G : zG} {X : zX} {K : Option Value → zS → Prop} {b : Nat} (hC : zC G X cX1_orderOf 6 RX1 (some .int)) (hb : isR b) {N : Nat} {u : zS} {v1 : Int32} : ∀ (n : Nat) (v2 : Int32) (v3 : Int32) (o : Int32), f_X1_orderOf_L4 N b u v1 n v2 v3 = some o → zW dscC l rm_X1_orderOf G X K u 45 [(2, .int o)] [] → zW dscC l rm_X1_orderOf G X K u 4 [(0, .ref (G.1 b)), (1, .int v1), (2, .int v2), (3, .int v3)] [] := by
  intro n
  induction n with
  | zero => intro v2 v3 o hf; cases hf
  | succ n ih => intro v2 v3 o hf hk; exact t_X1_orderOf_L4_B hC hb (rec := f_X1_orderOf_L4 N b u v1 n) ih v2 v3 o hf hk
set_option maxHeartbeats 4000000 in
set_option maxRecDepth 100000 in
theorem t_X1_orderOf {l : Launch} {G : zG} {X : zX} {K : Option Value → zS → Prop} {b : Nat} (hC : zC G X cX1_orderOf 6 RX1 (some .int)) (hb : isR b) {N : Nat} {u : zS} {v1 : Int32} (o : Int32) (hf : f_X1_orderOf N b u v1 = some o) (hk : K (some (.int o)) u) : zW dscC l rm_X1_orderOf G X K u 0 [(0, .ref (G.1 b)), (1, .int v1)] [] := by
  unfold f_X1_orderOf at hf
  refine r_iconst (v := 1) hC dX1_orderOf_0 (by decide) ?_
  refine r_istore_n (lv' := [(2, .int 1), (0, .ref (G.1 b)), (1, .int v1)]) hC dX1_orderOf_1 rfl (by decide) rfl ?_
  refine r_iconst (v := 0) hC dX1_orderOf_2 (by decide) ?_
  refine r_istore_n (lv' := [(3, .int 0), (2, .int 1), (0, .ref (G.1 b)), (1, .int v1)]) hC dX1_orderOf_3 rfl (by decide) rfl ?_
  refine r_loc [2, 3, 1, 0] rfl ?_
  obtain ⟨q7, eq7, hf⟩ := ob_some hf
  refine t_X1_orderOf_L4 hC hb N 1 0 q7 eq7 ?_
  refine r_iload_n hC dX1_orderOf_45 0 rfl ?_
  have hf := Option.some.inj hf
  subst hf
  exact r_iret hC dX1_orderOf_46 hk
set_option maxHeartbeats 4000000 in
set_option maxRecDepth 100000 in
theorem c_X1_orderOf {l : Launch} {G : zG} {b : Nat} (hb : isR b) {N : Nat} {u : zS} {v1 : Int32} {r : Int32} (hf : f_X1_orderOf N b u v1 = some r) : zM l dscC yX1_orderOf cX1_orderOf 6 (some .int) rm_X1_orderOf G [.ref (G.1 b), .int v1] u (some (.int r)) u := zM.of (by decide) (Nat.le_of_ble_eq_true rfl) (fun X hC => t_X1_orderOf hC hb r hf ⟨rfl, rfl⟩)
set_option maxHeartbeats 4000000 in
set_option maxRecDepth 100000 in
theorem t_X1_keptBy_L4_B {l : Launch} {G : zG} {X : zX} {K : Option Value → zS → Prop} {b : Nat} (hC : zC G X cX1_keptBy 4 RX1 (some .int)) (hb : isR b) {N : Nat} {u : zS} {v1 : Int32} {rec : Int32 → Int32 → Option (Int32)} (hrec : ∀ (v2 : Int32) (v3 : Int32) (o : Int32), rec v2 v3 = some o → zW dscC l rm_X1_keptBy G X K u 33 [(2, .int o)] [] → zW dscC l rm_X1_keptBy G X K u 4 [(0, .ref (G.1 b)), (1, .int v1), (2, .int v2), (3, .int v3)] []) : ∀ (v2 : Int32) (v3 : Int32) (o : Int32), f_X1_keptBy_L4_B N b u v1 rec v2 v3 = some o → zW dscC l rm_X1_keptBy G X K u 33 [(2, .int o)] [] → zW dscC l rm_X1_keptBy G X K u 4 [(0, .ref (G.1 b)), (1, .int v1), (2, .int v2), (3, .int v3)] [] := by
  intro v2 v3 o hf hk
  unfold f_X1_keptBy_L4_B at hf
  refine r_iload_n hC dX1_keptBy_4 3 rfl ?_
  refine r_bipush (v := 8) hC dX1_keptBy_5 (by decide) ?_
  refine r_icmp_ge (tgt := 33) hC dX1_keptBy_7 (by decide) (fun c1 => ?_) (fun c1 => ?_)
  · have hf := ite_t c1 hf
    have hf := Option.some.inj hf
    subst hf
    refine r_loc [2] rfl ?_
    exact hk
  · have hf := ite_f c1 hf
    refine r_aload_n hC dX1_keptBy_10 0 rfl ?_
    refine r_iload_n hC dX1_keptBy_11 1 rfl ?_
    refine r_iload_n hC dX1_keptBy_12 3 rfl ?_
    obtain ⟨r2, er2, hf⟩ := ob_some hf
    refine r_cvi (As := [.int v1, .int v3]) (rest := []) hC (c_X1_ledBy hb er2) yv_X1_ledBy ml_RX1_79 (dR_0 hb) ⟨by decide, by decide, rfl, rfl⟩ rfl rfl (Nat.le_of_ble_eq_true rfl) dX1_keptBy_13 ?_
    refine r_iload_n hC dX1_keptBy_16 3 rfl ?_
    refine r_icmp_ne (tgt := 27) hC dX1_keptBy_17 (by decide) (fun c3 => ?_) (fun c3 => ?_)
    · have hf := ite_f c3 hf
      refine r_iinc (v := 1) (lv' := [(3, .int (v3 + 1)), (0, .ref (G.1 b)), (1, .int v1), (2, .int v2)]) hC dX1_keptBy_27 3 rfl (by decide) (by decide) rfl ?_
      refine r_goto (tgt := 4) hC dX1_keptBy_30 (by decide) ?_
      refine r_loc [1, 2, 3, 0] rfl ?_
      exact hrec v2 (v3 + 1) o hf hk
    · have hf := ite_t c3 hf
      refine r_iload_n hC dX1_keptBy_20 2 rfl ?_
      refine r_iload_n hC dX1_keptBy_21 3 rfl ?_
      refine r_csni (As := [.int v3]) (rest := [.int v2]) hC c_X5_bitOf ys_X5_bitOf mn_RX1_71 ⟨by decide, by decide, rfl, rfl⟩ rfl rfl (Nat.le_of_ble_eq_true rfl) dX1_keptBy_22 ?_
      refine r_ior hC dX1_keptBy_25 ?_
      refine r_topi (fun w4 ew4 => ?_)
      have hf := olet_at ew4 hf
      refine r_istore_n (lv' := [(2, .int w4), (0, .ref (G.1 b)), (1, .int v1), (3, .int v3)]) hC dX1_keptBy_26 rfl (by decide) rfl ?_
      refine r_iinc (v := 1) (lv' := [(3, .int (v3 + 1)), (2, .int w4), (0, .ref (G.1 b)), (1, .int v1)]) hC dX1_keptBy_27 3 rfl (by decide) (by decide) rfl ?_
      refine r_goto (tgt := 4) hC dX1_keptBy_30 (by decide) ?_
      refine r_loc [2, 3, 1, 0] rfl ?_
      exact hrec w4 (v3 + 1) o hf hk
set_option maxHeartbeats 4000000 in
set_option maxRecDepth 100000 in
theorem t_X1_keptBy_L4 {l : Launch} {G : zG} {X : zX} {K : Option Value → zS → Prop} {b : Nat} (hC : zC G X cX1_keptBy 4 RX1 (some .int)) (hb : isR b) {N : Nat} {u : zS} {v1 : Int32} : ∀ (n : Nat) (v2 : Int32) (v3 : Int32) (o : Int32), f_X1_keptBy_L4 N b u v1 n v2 v3 = some o → zW dscC l rm_X1_keptBy G X K u 33 [(2, .int o)] [] → zW dscC l rm_X1_keptBy G X K u 4 [(0, .ref (G.1 b)), (1, .int v1), (2, .int v2), (3, .int v3)] [] := by
  intro n
  induction n with
  | zero => intro v2 v3 o hf; cases hf
  | succ n ih => intro v2 v3 o hf hk; exact t_X1_keptBy_L4_B hC hb (rec := f_X1_keptBy_L4 N b u v1 n) ih v2 v3 o hf hk
set_option maxHeartbeats 4000000 in
set_option maxRecDepth 100000 in
theorem t_X1_keptBy {l : Launch} {G : zG} {X : zX} {K : Option Value → zS → Prop} {b : Nat} (hC : zC G X cX1_keptBy 4 RX1 (some .int)) (hb : isR b) {N : Nat} {u : zS} {v1 : Int32} (o : Int32) (hf : f_X1_keptBy N b u v1 = some o) (hk : K (some (.int o)) u) : zW dscC l rm_X1_keptBy G X K u 0 [(0, .ref (G.1 b)), (1, .int v1)] [] := by
  unfold f_X1_keptBy at hf
  refine r_iconst (v := 0) hC dX1_keptBy_0 (by decide) ?_
  refine r_istore_n (lv' := [(2, .int 0), (0, .ref (G.1 b)), (1, .int v1)]) hC dX1_keptBy_1 rfl (by decide) rfl ?_
  refine r_iconst (v := 0) hC dX1_keptBy_2 (by decide) ?_
  refine r_istore_n (lv' := [(3, .int 0), (2, .int 0), (0, .ref (G.1 b)), (1, .int v1)]) hC dX1_keptBy_3 rfl (by decide) rfl ?_
  refine r_loc [2, 3, 1, 0] rfl ?_
  obtain ⟨q5, eq5, hf⟩ := ob_some hf
  refine t_X1_keptBy_L4 hC hb N 0 0 q5 eq5 ?_
  refine r_iload_n hC dX1_keptBy_33 0 rfl ?_
  have hf := Option.some.inj hf
  subst hf
  exact r_iret hC dX1_keptBy_34 hk
set_option maxHeartbeats 4000000 in
set_option maxRecDepth 100000 in
theorem c_X1_keptBy {l : Launch} {G : zG} {b : Nat} (hb : isR b) {N : Nat} {u : zS} {v1 : Int32} {r : Int32} (hf : f_X1_keptBy N b u v1 = some r) : zM l dscC yX1_keptBy cX1_keptBy 4 (some .int) rm_X1_keptBy G [.ref (G.1 b), .int v1] u (some (.int r)) u := zM.of (by decide) (Nat.le_of_ble_eq_true rfl) (fun X hC => t_X1_keptBy hC hb r hf ⟨rfl, rfl⟩)
set_option maxHeartbeats 4000000 in
set_option maxRecDepth 100000 in
theorem t_X1_leadAlike_L2_B {l : Launch} {G : zG} {X : zX} {K : Option Value → zS → Prop} {b : Nat} (hC : zC G X cX1_leadAlike 4 RX1 (some .boolean)) (hb : isR b) {N : Nat} {u : zS} {v1 : Int32} {v2 : Int32} {rec : Int32 → Option ((Int32) ⊕ (Unit))} (hrec : ∀ (v3 : Int32) (o : (Int32) ⊕ (Unit)), rec v3 = some o → ((∀ q, o = .inl q → K (some (.int q)) u) ∧ (∀ q, o = .inr q → zW dscC l rm_X1_leadAlike G X K u 31 [] [])) → zW dscC l rm_X1_leadAlike G X K u 2 [(0, .ref (G.1 b)), (1, .int v1), (2, .int v2), (3, .int v3)] []) : ∀ (v3 : Int32) (o : (Int32) ⊕ (Unit)), f_X1_leadAlike_L2_B N b u v1 v2 rec v3 = some o → ((∀ q, o = .inl q → K (some (.int q)) u) ∧ (∀ q, o = .inr q → zW dscC l rm_X1_leadAlike G X K u 31 [] [])) → zW dscC l rm_X1_leadAlike G X K u 2 [(0, .ref (G.1 b)), (1, .int v1), (2, .int v2), (3, .int v3)] [] := by
  intro v3 o hf hk
  unfold f_X1_leadAlike_L2_B at hf
  refine r_iload_n hC dX1_leadAlike_2 3 rfl ?_
  refine r_bipush (v := 8) hC dX1_leadAlike_3 (by decide) ?_
  refine r_icmp_ge (tgt := 31) hC dX1_leadAlike_5 (by decide) (fun c1 => ?_) (fun c1 => ?_)
  · have hf := ite_t c1 hf
    have hf := Option.some.inj hf
    subst hf
    refine r_loc [] rfl ?_
    exact hk.2 _ rfl
  · have hf := ite_f c1 hf
    refine r_aload_n hC dX1_leadAlike_8 0 rfl ?_
    refine r_iload_n hC dX1_leadAlike_9 1 rfl ?_
    refine r_iload_n hC dX1_leadAlike_10 3 rfl ?_
    obtain ⟨r2, er2, hf⟩ := ob_some hf
    refine r_cvi (As := [.int v1, .int v3]) (rest := []) hC (c_X1_ledBy hb er2) yv_X1_ledBy ml_RX1_79 (dR_0 hb) ⟨by decide, by decide, rfl, rfl⟩ rfl rfl (Nat.le_of_ble_eq_true rfl) dX1_leadAlike_11 ?_
    refine r_aload_n hC dX1_leadAlike_14 0 rfl ?_
    refine r_iload_n hC dX1_leadAlike_15 2 rfl ?_
    refine r_iload_n hC dX1_leadAlike_16 3 rfl ?_
    obtain ⟨r3, er3, hf⟩ := ob_some hf
    refine r_cvi (As := [.int v2, .int v3]) (rest := [.int r2]) hC (c_X1_ledBy hb er3) yv_X1_ledBy ml_RX1_79 (dR_0 hb) ⟨by decide, by decide, rfl, rfl⟩ rfl rfl (Nat.le_of_ble_eq_true rfl) dX1_leadAlike_17 ?_
    refine r_icmp_eq (tgt := 25) hC dX1_leadAlike_20 (by decide) (fun c4 => ?_) (fun c4 => ?_)
    · have hf := ite_t c4 hf
      refine r_iinc (v := 1) (lv' := [(3, .int (v3 + 1)), (0, .ref (G.1 b)), (1, .int v1), (2, .int v2)]) hC dX1_leadAlike_25 3 rfl (by decide) (by decide) rfl ?_
      refine r_goto (tgt := 2) hC dX1_leadAlike_28 (by decide) ?_
      refine r_loc [1, 2, 3, 0] rfl ?_
      exact hrec (v3 + 1) o hf hk
    · have hf := ite_f c4 hf
      refine r_iconst (v := 0) hC dX1_leadAlike_23 (by decide) ?_
      have hf := Option.some.inj hf
      subst hf
      exact r_zret hC rfl dX1_leadAlike_24 (hk.1 _ rfl)
set_option maxHeartbeats 4000000 in
set_option maxRecDepth 100000 in
theorem t_X1_leadAlike_L2 {l : Launch} {G : zG} {X : zX} {K : Option Value → zS → Prop} {b : Nat} (hC : zC G X cX1_leadAlike 4 RX1 (some .boolean)) (hb : isR b) {N : Nat} {u : zS} {v1 : Int32} {v2 : Int32} : ∀ (n : Nat) (v3 : Int32) (o : (Int32) ⊕ (Unit)), f_X1_leadAlike_L2 N b u v1 v2 n v3 = some o → ((∀ q, o = .inl q → K (some (.int q)) u) ∧ (∀ q, o = .inr q → zW dscC l rm_X1_leadAlike G X K u 31 [] [])) → zW dscC l rm_X1_leadAlike G X K u 2 [(0, .ref (G.1 b)), (1, .int v1), (2, .int v2), (3, .int v3)] [] := by
  intro n
  induction n with
  | zero => intro v3 o hf; cases hf
  | succ n ih => intro v3 o hf hk; exact t_X1_leadAlike_L2_B hC hb (rec := f_X1_leadAlike_L2 N b u v1 v2 n) ih v3 o hf hk
set_option maxHeartbeats 4000000 in
set_option maxRecDepth 100000 in
theorem t_X1_leadAlike {l : Launch} {G : zG} {X : zX} {K : Option Value → zS → Prop} {b : Nat} (hC : zC G X cX1_leadAlike 4 RX1 (some .boolean)) (hb : isR b) {N : Nat} {u : zS} {v1 : Int32} {v2 : Int32} (o : Int32) (hf : f_X1_leadAlike N b u v1 v2 = some o) (hk : K (some (.int o)) u) : zW dscC l rm_X1_leadAlike G X K u 0 [(0, .ref (G.1 b)), (1, .int v1), (2, .int v2)] [] := by
  unfold f_X1_leadAlike at hf
  refine r_iconst (v := 0) hC dX1_leadAlike_0 (by decide) ?_
  refine r_istore_n (lv' := [(3, .int 0), (0, .ref (G.1 b)), (1, .int v1), (2, .int v2)]) hC dX1_leadAlike_1 rfl (by decide) rfl ?_
  refine r_loc [1, 2, 3, 0] rfl ?_
  rcases os_some hf with ⟨q6, eq5, hf⟩ | ⟨q5, eq5, hf⟩
  · have hf := Option.some.inj hf
    subst hf
    exact t_X1_leadAlike_L2 hC hb N 0 _ eq5 ⟨fun _ h9 => by cases h9; exact hk, fun _ h9 => by cases h9⟩
  refine t_X1_leadAlike_L2 hC hb N 0 _ eq5 ⟨fun _ h9 => (by cases h9), fun _ h9 => ?_⟩
  cases h9
  refine r_iconst (v := 1) hC dX1_leadAlike_31 (by decide) ?_
  have hf := Option.some.inj hf
  subst hf
  exact r_zret hC rfl dX1_leadAlike_32 hk
set_option maxHeartbeats 4000000 in
set_option maxRecDepth 100000 in
theorem c_X1_leadAlike {l : Launch} {G : zG} {b : Nat} (hb : isR b) {N : Nat} {u : zS} {v1 : Int32} {v2 : Int32} {r : Int32} (hf : f_X1_leadAlike N b u v1 v2 = some r) : zM l dscC yX1_leadAlike cX1_leadAlike 4 (some .boolean) rm_X1_leadAlike G [.ref (G.1 b), .int v1, .int v2] u (some (.int r)) u := zM.of (by decide) (Nat.le_of_ble_eq_true rfl) (fun X hC => t_X1_leadAlike hC hb r hf ⟨rfl, rfl⟩)
set_option maxHeartbeats 4000000 in
set_option maxRecDepth 100000 in
theorem t_X1_leastLike_L2_B {l : Launch} {G : zG} {X : zX} {K : Option Value → zS → Prop} {b : Nat} (hC : zC G X cX1_leastLike 3 RX1 (some .int)) (hb : isR b) {N : Nat} {u : zS} {v1 : Int32} {rec : Int32 → Option ((Int32) ⊕ (Unit))} (hrec : ∀ (v2 : Int32) (o : (Int32) ⊕ (Unit)), rec v2 = some o → ((∀ q, o = .inl q → K (some (.int q)) u) ∧ (∀ q, o = .inr q → zW dscC l rm_X1_leastLike G X K u 24 [(1, .int v1)] [])) → zW dscC l rm_X1_leastLike G X K u 2 [(0, .ref (G.1 b)), (1, .int v1), (2, .int v2)] []) : ∀ (v2 : Int32) (o : (Int32) ⊕ (Unit)), f_X1_leastLike_L2_B N b u v1 rec v2 = some o → ((∀ q, o = .inl q → K (some (.int q)) u) ∧ (∀ q, o = .inr q → zW dscC l rm_X1_leastLike G X K u 24 [(1, .int v1)] [])) → zW dscC l rm_X1_leastLike G X K u 2 [(0, .ref (G.1 b)), (1, .int v1), (2, .int v2)] [] := by
  intro v2 o hf hk
  unfold f_X1_leastLike_L2_B at hf
  refine r_iload_n hC dX1_leastLike_2 2 rfl ?_
  refine r_iload_n hC dX1_leastLike_3 1 rfl ?_
  refine r_icmp_ge (tgt := 24) hC dX1_leastLike_4 (by decide) (fun c1 => ?_) (fun c1 => ?_)
  · have hf := ite_t c1 hf
    have hf := Option.some.inj hf
    subst hf
    refine r_loc [1] rfl ?_
    exact hk.2 _ rfl
  · have hf := ite_f c1 hf
    refine r_aload_n hC dX1_leastLike_7 0 rfl ?_
    refine r_iload_n hC dX1_leastLike_8 2 rfl ?_
    refine r_iload_n hC dX1_leastLike_9 1 rfl ?_
    obtain ⟨r2, er2, hf⟩ := ob_some hf
    refine r_cvi (As := [.int v2, .int v1]) (rest := []) hC (c_X1_leadAlike hb er2) yv_X1_leadAlike ml_RX1_89 (dR_0 hb) ⟨by decide, by decide, rfl, rfl⟩ rfl rfl (Nat.le_of_ble_eq_true rfl) dX1_leastLike_10 ?_
    refine r_if_eq (tgt := 18) hC dX1_leastLike_13 (by decide) (fun c3 => ?_) (fun c3 => ?_)
    · have hf := ite_t c3 hf
      refine r_iinc (v := 1) (lv' := [(2, .int (v2 + 1)), (0, .ref (G.1 b)), (1, .int v1)]) hC dX1_leastLike_18 2 rfl (by decide) (by decide) rfl ?_
      refine r_goto (tgt := 2) hC dX1_leastLike_21 (by decide) ?_
      refine r_loc [1, 2, 0] rfl ?_
      exact hrec (v2 + 1) o hf hk
    · have hf := ite_f c3 hf
      refine r_iload_n hC dX1_leastLike_16 2 rfl ?_
      have hf := Option.some.inj hf
      subst hf
      exact r_iret hC dX1_leastLike_17 (hk.1 _ rfl)
set_option maxHeartbeats 4000000 in
set_option maxRecDepth 100000 in
theorem t_X1_leastLike_L2 {l : Launch} {G : zG} {X : zX} {K : Option Value → zS → Prop} {b : Nat} (hC : zC G X cX1_leastLike 3 RX1 (some .int)) (hb : isR b) {N : Nat} {u : zS} {v1 : Int32} : ∀ (n : Nat) (v2 : Int32) (o : (Int32) ⊕ (Unit)), f_X1_leastLike_L2 N b u v1 n v2 = some o → ((∀ q, o = .inl q → K (some (.int q)) u) ∧ (∀ q, o = .inr q → zW dscC l rm_X1_leastLike G X K u 24 [(1, .int v1)] [])) → zW dscC l rm_X1_leastLike G X K u 2 [(0, .ref (G.1 b)), (1, .int v1), (2, .int v2)] [] := by
  intro n
  induction n with
  | zero => intro v2 o hf; cases hf
  | succ n ih => intro v2 o hf hk; exact t_X1_leastLike_L2_B hC hb (rec := f_X1_leastLike_L2 N b u v1 n) ih v2 o hf hk
set_option maxHeartbeats 4000000 in
set_option maxRecDepth 100000 in
theorem t_X1_leastLike {l : Launch} {G : zG} {X : zX} {K : Option Value → zS → Prop} {b : Nat} (hC : zC G X cX1_leastLike 3 RX1 (some .int)) (hb : isR b) {N : Nat} {u : zS} {v1 : Int32} (o : Int32) (hf : f_X1_leastLike N b u v1 = some o) (hk : K (some (.int o)) u) : zW dscC l rm_X1_leastLike G X K u 0 [(0, .ref (G.1 b)), (1, .int v1)] [] := by
  unfold f_X1_leastLike at hf
  refine r_iconst (v := 0) hC dX1_leastLike_0 (by decide) ?_
  refine r_istore_n (lv' := [(2, .int 0), (0, .ref (G.1 b)), (1, .int v1)]) hC dX1_leastLike_1 rfl (by decide) rfl ?_
  refine r_loc [1, 2, 0] rfl ?_
  rcases os_some hf with ⟨q5, eq4, hf⟩ | ⟨q4, eq4, hf⟩
  · have hf := Option.some.inj hf
    subst hf
    exact t_X1_leastLike_L2 hC hb N 0 _ eq4 ⟨fun _ h9 => by cases h9; exact hk, fun _ h9 => by cases h9⟩
  refine t_X1_leastLike_L2 hC hb N 0 _ eq4 ⟨fun _ h9 => (by cases h9), fun _ h9 => ?_⟩
  cases h9
  refine r_iload_n hC dX1_leastLike_24 0 rfl ?_
  have hf := Option.some.inj hf
  subst hf
  exact r_iret hC dX1_leastLike_25 hk
set_option maxHeartbeats 4000000 in
set_option maxRecDepth 100000 in
theorem c_X1_leastLike {l : Launch} {G : zG} {b : Nat} (hb : isR b) {N : Nat} {u : zS} {v1 : Int32} {r : Int32} (hf : f_X1_leastLike N b u v1 = some r) : zM l dscC yX1_leastLike cX1_leastLike 3 (some .int) rm_X1_leastLike G [.ref (G.1 b), .int v1] u (some (.int r)) u := zM.of (by decide) (Nat.le_of_ble_eq_true rfl) (fun X hC => t_X1_leastLike hC hb r hf ⟨rfl, rfl⟩)
set_option maxHeartbeats 4000000 in
set_option maxRecDepth 100000 in
theorem t_X1_figureOfBeat {l : Launch} {G : zG} {X : zX} {K : Option Value → zS → Prop} {b : Nat} (hC : zC G X cX1_figureOfBeat 2 RX1 (some .int)) (hb : isR b) {u : zS} {v1 : Int32} (o : Int32) (hf : f_X1_figureOfBeat b u v1 = some o) (hk : K (some (.int o)) u) : zW dscC l rm_X1_figureOfBeat G X K u 0 [(0, .ref (G.1 b)), (1, .int v1)] [] := by
  unfold f_X1_figureOfBeat at hf
  refine r_aload_n hC dX1_figureOfBeat_0 0 rfl ?_
  refine r_geti hC fd_RX1_44 (dR_0 hb) rfl dX1_figureOfBeat_1 ?_
  refine r_if_gt (tgt := 12) hC dX1_figureOfBeat_4 (by decide) (fun c1 => ?_) (fun c1 => ?_)
  · have hf := ite_t c1 hf
    refine r_aload_n hC dX1_figureOfBeat_12 0 rfl ?_
    refine r_getr hC fd_RX1_24 (dR_0 hb) rfl dX1_figureOfBeat_13 ?_
    refine r_iload_n hC dX1_figureOfBeat_16 1 rfl ?_
    refine r_aload_n hC dX1_figureOfBeat_17 0 rfl ?_
    refine r_geti hC fd_RX1_44 (dR_0 hb) rfl dX1_figureOfBeat_18 ?_
    obtain ⟨g2, hf⟩ := og_ne hf
    refine r_irem (x := v1) (y := (u.1 b 8)) hC dX1_figureOfBeat_21 g2 ?_
    obtain ⟨g3, hf⟩ := og_in hf
    refine r_iald hC (dR_5 hb) g3 dX1_figureOfBeat_22 ?_
    have hf := Option.some.inj hf
    subst hf
    exact r_iret hC dX1_figureOfBeat_23 hk
  · have hf := ite_f c1 hf
    refine r_bipush (v := (-4)) hC dX1_figureOfBeat_7 (by decide) ?_
    refine r_goto (tgt := 23) hC dX1_figureOfBeat_9 (by decide) ?_
    have hf := Option.some.inj hf
    subst hf
    exact r_iret hC dX1_figureOfBeat_23 hk
set_option maxHeartbeats 4000000 in
set_option maxRecDepth 100000 in
theorem c_X1_figureOfBeat {l : Launch} {G : zG} {b : Nat} (hb : isR b) {u : zS} {v1 : Int32} {r : Int32} (hf : f_X1_figureOfBeat b u v1 = some r) : zM l dscC yX1_figureOfBeat cX1_figureOfBeat 2 (some .int) rm_X1_figureOfBeat G [.ref (G.1 b), .int v1] u (some (.int r)) u := zM.of (by decide) (Nat.le_of_ble_eq_true rfl) (fun X hC => t_X1_figureOfBeat hC hb r hf ⟨rfl, rfl⟩)
set_option maxHeartbeats 4000000 in
set_option maxRecDepth 100000 in
theorem t_X1_goesOn {l : Launch} {G : zG} {X : zX} {K : Option Value → zS → Prop} {b : Nat} (hC : zC G X cX1_goesOn 3 RX1 (some .int)) (hb : isR b) {u : zS} {v1 : Int32} {v2 : Int32} (o : Int32) (hf : f_X1_goesOn b u v1 v2 = some o) (hk : K (some (.int o)) u) : zW dscC l rm_X1_goesOn G X K u 0 [(0, .ref (G.1 b)), (1, .int v1), (2, .int v2)] [] := by
  unfold f_X1_goesOn at hf
  refine r_aload_n hC dX1_goesOn_0 0 rfl ?_
  refine r_geti hC fd_RX1_44 (dR_0 hb) rfl dX1_goesOn_1 ?_
  refine r_if_le (tgt := 13) hC dX1_goesOn_4 (by decide) (fun c1 => ?_) (fun c1 => ?_)
  · have hf := ite_t c1 hf
    refine r_iload_n hC dX1_goesOn_13 1 rfl ?_
    have hf := Option.some.inj hf
    subst hf
    exact r_iret hC dX1_goesOn_14 hk
  · have hf := ite_f c1 hf
    refine r_iload_n hC dX1_goesOn_7 1 rfl ?_
    refine r_bipush (v := (-4)) hC dX1_goesOn_8 (by decide) ?_
    refine r_icmp_ne (tgt := 15) hC dX1_goesOn_10 (by decide) (fun c2 => ?_) (fun c2 => ?_)
    · have hf := ite_f c2 hf
      refine r_aload_n hC dX1_goesOn_15 0 rfl ?_
      refine r_aload_n hC dX1_goesOn_16 0 rfl ?_
      refine r_getr hC fd_RX1_24 (dR_0 hb) rfl dX1_goesOn_17 ?_
      refine r_iload_n hC dX1_goesOn_20 2 rfl ?_
      refine r_aload_n hC dX1_goesOn_21 0 rfl ?_
      refine r_geti hC fd_RX1_44 (dR_0 hb) rfl dX1_goesOn_22 ?_
      obtain ⟨g3, hf⟩ := og_ne hf
      refine r_irem (x := v2) (y := (u.1 b 8)) hC dX1_goesOn_25 g3 ?_
      obtain ⟨g4, hf⟩ := og_in hf
      refine r_iald hC (dR_5 hb) g4 dX1_goesOn_26 ?_
      refine r_iload_n hC dX1_goesOn_27 1 rfl ?_
      obtain ⟨r5, er5, hf⟩ := ob_some hf
      refine r_cvi (As := [.int (u.1 (b + 5) (Int32.toNatClampNeg (v2 - v2 / (u.1 b 8) * (u.1 b 8)))), .int v1]) (rest := []) hC (c_X1_ledBy hb er5) yv_X1_ledBy ml_RX1_79 (dR_0 hb) ⟨by decide, by decide, rfl, rfl⟩ rfl rfl (Nat.le_of_ble_eq_true rfl) dX1_goesOn_28 ?_
      have hf := Option.some.inj hf
      subst hf
      exact r_iret hC dX1_goesOn_31 hk
    · have hf := ite_t c2 hf
      refine r_iload_n hC dX1_goesOn_13 1 rfl ?_
      have hf := Option.some.inj hf
      subst hf
      exact r_iret hC dX1_goesOn_14 hk
set_option maxHeartbeats 4000000 in
set_option maxRecDepth 100000 in
theorem c_X1_goesOn {l : Launch} {G : zG} {b : Nat} (hb : isR b) {u : zS} {v1 : Int32} {v2 : Int32} {r : Int32} (hf : f_X1_goesOn b u v1 v2 = some r) : zM l dscC yX1_goesOn cX1_goesOn 3 (some .int) rm_X1_goesOn G [.ref (G.1 b), .int v1, .int v2] u (some (.int r)) u := zM.of (by decide) (Nat.le_of_ble_eq_true rfl) (fun X hC => t_X1_goesOn hC hb r hf ⟨rfl, rfl⟩)
set_option maxHeartbeats 4000000 in
set_option maxRecDepth 100000 in
theorem t_X1_dance_L2_B {l : Launch} {G : zG} {X : zX} {K : Option Value → zS → Prop} {b : Nat} (hC : zC G X cX1_dance 2 RX1 none) (hb : isR b) {N : Nat} {rec : zS → Int32 → Option (zS)} (hrec : ∀ (u : zS) (v1 : Int32) (o : zS), rec u v1 = some o → zW dscC l rm_X1_dance G X K o 36 [(0, .ref (G.1 b))] [] → zW dscC l rm_X1_dance G X K u 2 [(0, .ref (G.1 b)), (1, .int v1)] []) : ∀ (u : zS) (v1 : Int32) (o : zS), f_X1_dance_L2_B N b rec u v1 = some o → zW dscC l rm_X1_dance G X K o 36 [(0, .ref (G.1 b))] [] → zW dscC l rm_X1_dance G X K u 2 [(0, .ref (G.1 b)), (1, .int v1)] [] := by
  intro u v1 o hf hk
  unfold f_X1_dance_L2_B at hf
  refine r_iload_n hC dX1_dance_2 1 rfl ?_
  refine r_aload_n hC dX1_dance_3 0 rfl ?_
  refine r_geti hC fd_RX1_38 (dR_0 hb) rfl dX1_dance_4 ?_
  refine r_icmp_ge (tgt := 36) hC dX1_dance_7 (by decide) (fun c1 => ?_) (fun c1 => ?_)
  · have hf := ite_t c1 hf
    have hf := Option.some.inj hf
    subst hf
    refine r_loc [0] rfl ?_
    exact hk
  · have hf := ite_f c1 hf
    refine r_aload_n hC dX1_dance_10 0 rfl ?_
    refine r_getr hC fd_RX1_9 (dR_0 hb) rfl dX1_dance_11 ?_
    refine r_iload_n hC dX1_dance_14 1 rfl ?_
    refine r_aload_n hC dX1_dance_15 0 rfl ?_
    refine r_aload_n hC dX1_dance_16 0 rfl ?_
    refine r_getr hC fd_RX1_9 (dR_0 hb) rfl dX1_dance_17 ?_
    refine r_iload_n hC dX1_dance_20 1 rfl ?_
    obtain ⟨g2, hf⟩ := og_in hf
    refine r_iald hC (dR_1 hb) g2 dX1_dance_21 ?_
    refine r_aload_n hC dX1_dance_22 0 rfl ?_
    refine r_geti hC fd_RX1_47 (dR_0 hb) rfl dX1_dance_23 ?_
    obtain ⟨r3, er3, hf⟩ := ob_some hf
    refine r_cvi (As := [.int (u.1 (b + 1) (Int32.toNatClampNeg v1)), .int (u.1 b 9)]) (rest := [.int v1, .ref (G.1 (b + 1))]) hC (c_X1_goesOn hb er3) yv_X1_goesOn ml_RX1_92 (dR_0 hb) ⟨by decide, by decide, rfl, rfl⟩ rfl rfl (Nat.le_of_ble_eq_true rfl) dX1_dance_26 ?_
    obtain ⟨g4, hf⟩ := og_in hf
    refine r_iast hC (dR_1 hb) g4 dX1_dance_29 ?_
    refine r_tops (fun u5 eu5 => ?_)
    have hf := olet_at eu5 hf
    refine r_iinc (v := 1) (lv' := [(1, .int (v1 + 1)), (0, .ref (G.1 b))]) hC dX1_dance_30 1 rfl (by decide) (by decide) rfl ?_
    refine r_goto (tgt := 2) hC dX1_dance_33 (by decide) ?_
    refine r_loc [1, 0] rfl ?_
    exact hrec u5 (v1 + 1) o hf hk
set_option maxHeartbeats 4000000 in
set_option maxRecDepth 100000 in
theorem t_X1_dance_L2 {l : Launch} {G : zG} {X : zX} {K : Option Value → zS → Prop} {b : Nat} (hC : zC G X cX1_dance 2 RX1 none) (hb : isR b) {N : Nat} : ∀ (n : Nat) (u : zS) (v1 : Int32) (o : zS), f_X1_dance_L2 N b n u v1 = some o → zW dscC l rm_X1_dance G X K o 36 [(0, .ref (G.1 b))] [] → zW dscC l rm_X1_dance G X K u 2 [(0, .ref (G.1 b)), (1, .int v1)] [] := by
  intro n
  induction n with
  | zero => intro u v1 o hf; cases hf
  | succ n ih => intro u v1 o hf hk; exact t_X1_dance_L2_B hC hb (rec := f_X1_dance_L2 N b n) ih u v1 o hf hk
set_option maxHeartbeats 4000000 in
set_option maxRecDepth 100000 in
theorem t_X1_dance {l : Launch} {G : zG} {X : zX} {K : Option Value → zS → Prop} {b : Nat} (hC : zC G X cX1_dance 2 RX1 none) (hb : isR b) {N : Nat} {u : zS} (o : zS) (hf : f_X1_dance N b u = some o) (hk : K none o) : zW dscC l rm_X1_dance G X K u 0 [(0, .ref (G.1 b))] [] := by
  unfold f_X1_dance at hf
  refine r_iconst (v := 0) hC dX1_dance_0 (by decide) ?_
  refine r_istore_n (lv' := [(1, .int 0), (0, .ref (G.1 b))]) hC dX1_dance_1 rfl (by decide) rfl ?_
  refine r_loc [1, 0] rfl ?_
  obtain ⟨q6, eq6, hf⟩ := ob_some hf
  refine t_X1_dance_L2 hC hb N u 0 q6 eq6 ?_
  refine r_aload_n hC dX1_dance_36 0 rfl ?_
  refine r_dup hC dX1_dance_37 rfl ?_
  refine r_geti hC fd_RX1_47 (dR_0 hb) rfl dX1_dance_38 ?_
  refine r_iconst (v := 1) hC dX1_dance_41 (by decide) ?_
  refine r_iadd hC dX1_dance_42 ?_
  refine r_puti hC fp_RX1_47 (dR_0 hb) rfl dX1_dance_43 ?_
  refine r_tops (fun u7 eu7 => ?_)
  have hf := olet_at eu7 hf
  have hf := Option.some.inj hf
  subst hf
  exact r_vret hC dX1_dance_46 hk
set_option maxHeartbeats 4000000 in
set_option maxRecDepth 100000 in
theorem c_X1_dance {l : Launch} {G : zG} {b : Nat} (hb : isR b) {N : Nat} {u : zS} {r : zS} (hf : f_X1_dance N b u = some r) : zM l dscC yX1_dance cX1_dance 2 none rm_X1_dance G [.ref (G.1 b)] u none r := zM.of (by decide) (Nat.le_of_ble_eq_true rfl) (fun X hC => t_X1_dance hC hb r hf ⟨rfl, rfl⟩)
set_option maxHeartbeats 4000000 in
set_option maxRecDepth 100000 in
theorem t_X1_blow_L2_B {l : Launch} {G : zG} {X : zX} {K : Option Value → zS → Prop} {b : Nat} (hC : zC G X cX1_blow 3 RX1 none) (hb : isR b) {N : Nat} {v1 : Int32} {rec : zS → Int32 → Option (zS)} (hrec : ∀ (u : zS) (v2 : Int32) (o : zS), rec u v2 = some o → zW dscC l rm_X1_blow G X K o 44 [] [] → zW dscC l rm_X1_blow G X K u 2 [(0, .ref (G.1 b)), (1, .int v1), (2, .int v2)] []) : ∀ (u : zS) (v2 : Int32) (o : zS), f_X1_blow_L2_B N b v1 rec u v2 = some o → zW dscC l rm_X1_blow G X K o 44 [] [] → zW dscC l rm_X1_blow G X K u 2 [(0, .ref (G.1 b)), (1, .int v1), (2, .int v2)] [] := by
  intro u v2 o hf hk
  unfold f_X1_blow_L2_B at hf
  refine r_iload_n hC dX1_blow_2 2 rfl ?_
  refine r_aload_n hC dX1_blow_3 0 rfl ?_
  refine r_geti hC fd_RX1_38 (dR_0 hb) rfl dX1_blow_4 ?_
  refine r_icmp_ge (tgt := 44) hC dX1_blow_7 (by decide) (fun c1 => ?_) (fun c1 => ?_)
  · have hf := ite_t c1 hf
    have hf := Option.some.inj hf
    subst hf
    refine r_loc [] rfl ?_
    exact hk
  · have hf := ite_f c1 hf
    refine r_aload_n hC dX1_blow_10 0 rfl ?_
    refine r_getr hC fd_RX1_9 (dR_0 hb) rfl dX1_blow_11 ?_
    refine r_iload_n hC dX1_blow_14 2 rfl ?_
    obtain ⟨g2, hf⟩ := og_in hf
    refine r_iald hC (dR_1 hb) g2 dX1_blow_15 ?_
    refine r_bipush (v := (-4)) hC dX1_blow_16 (by decide) ?_
    refine r_icmp_eq (tgt := 38) hC dX1_blow_18 (by decide) (fun c3 => ?_) (fun c3 => ?_)
    · have hf := ite_t c3 hf
      refine r_iinc (v := 1) (lv' := [(2, .int (v2 + 1)), (0, .ref (G.1 b)), (1, .int v1)]) hC dX1_blow_38 2 rfl (by decide) (by decide) rfl ?_
      refine r_goto (tgt := 2) hC dX1_blow_41 (by decide) ?_
      refine r_loc [1, 2, 0] rfl ?_
      exact hrec u (v2 + 1) o hf hk
    · have hf := ite_f c3 hf
      refine r_aload_n hC dX1_blow_21 0 rfl ?_
      refine r_getr hC fd_RX1_9 (dR_0 hb) rfl dX1_blow_22 ?_
      refine r_iload_n hC dX1_blow_25 2 rfl ?_
      refine r_aload_n hC dX1_blow_26 0 rfl ?_
      refine r_getr hC fd_RX1_9 (dR_0 hb) rfl dX1_blow_27 ?_
      refine r_iload_n hC dX1_blow_30 2 rfl ?_
      obtain ⟨g4, hf⟩ := og_in hf
      refine r_iald hC (dR_1 hb) g4 dX1_blow_31 ?_
      refine r_iload_n hC dX1_blow_32 1 rfl ?_
      refine r_iadd hC dX1_blow_33 ?_
      refine r_csni (As := [.int ((u.1 (b + 1) (Int32.toNatClampNeg v2)) + v1)]) (rest := [.int v2, .ref (G.1 (b + 1))]) hC c_X5_leftBy8 ys_X5_leftBy8 mn_RX1_95 ⟨by decide, by decide, rfl, rfl⟩ rfl rfl (Nat.le_of_ble_eq_true rfl) dX1_blow_34 ?_
      obtain ⟨g5, hf⟩ := og_in hf
      refine r_iast hC (dR_1 hb) g5 dX1_blow_37 ?_
      refine r_tops (fun u6 eu6 => ?_)
      have hf := olet_at eu6 hf
      refine r_iinc (v := 1) (lv' := [(2, .int (v2 + 1)), (0, .ref (G.1 b)), (1, .int v1)]) hC dX1_blow_38 2 rfl (by decide) (by decide) rfl ?_
      refine r_goto (tgt := 2) hC dX1_blow_41 (by decide) ?_
      refine r_loc [1, 2, 0] rfl ?_
      exact hrec u6 (v2 + 1) o hf hk
set_option maxHeartbeats 4000000 in
set_option maxRecDepth 100000 in
theorem t_X1_blow_L2 {l : Launch} {G : zG} {X : zX} {K : Option Value → zS → Prop} {b : Nat} (hC : zC G X cX1_blow 3 RX1 none) (hb : isR b) {N : Nat} {v1 : Int32} : ∀ (n : Nat) (u : zS) (v2 : Int32) (o : zS), f_X1_blow_L2 N b v1 n u v2 = some o → zW dscC l rm_X1_blow G X K o 44 [] [] → zW dscC l rm_X1_blow G X K u 2 [(0, .ref (G.1 b)), (1, .int v1), (2, .int v2)] [] := by
  intro n
  induction n with
  | zero => intro u v2 o hf; cases hf
  | succ n ih => intro u v2 o hf hk; exact t_X1_blow_L2_B hC hb (rec := f_X1_blow_L2 N b v1 n) ih u v2 o hf hk
set_option maxHeartbeats 4000000 in
set_option maxRecDepth 100000 in
theorem t_X1_blow {l : Launch} {G : zG} {X : zX} {K : Option Value → zS → Prop} {b : Nat} (hC : zC G X cX1_blow 3 RX1 none) (hb : isR b) {N : Nat} {u : zS} {v1 : Int32} (o : zS) (hf : f_X1_blow N b u v1 = some o) (hk : K none o) : zW dscC l rm_X1_blow G X K u 0 [(0, .ref (G.1 b)), (1, .int v1)] [] := by
  unfold f_X1_blow at hf
  refine r_iconst (v := 0) hC dX1_blow_0 (by decide) ?_
  refine r_istore_n (lv' := [(2, .int 0), (0, .ref (G.1 b)), (1, .int v1)]) hC dX1_blow_1 rfl (by decide) rfl ?_
  refine r_loc [1, 2, 0] rfl ?_
  obtain ⟨q7, eq7, hf⟩ := ob_some hf
  refine t_X1_blow_L2 hC hb N u 0 q7 eq7 ?_
  have hf := Option.some.inj hf
  subst hf
  exact r_vret hC dX1_blow_44 hk
set_option maxHeartbeats 4000000 in
set_option maxRecDepth 100000 in
theorem c_X1_blow {l : Launch} {G : zG} {b : Nat} (hb : isR b) {N : Nat} {u : zS} {v1 : Int32} {r : zS} (hf : f_X1_blow N b u v1 = some r) : zM l dscC yX1_blow cX1_blow 3 none rm_X1_blow G [.ref (G.1 b), .int v1] u none r := zM.of (by decide) (Nat.le_of_ble_eq_true rfl) (fun X hC => t_X1_blow hC hb r hf ⟨rfl, rfl⟩)
set_option maxHeartbeats 4000000 in
set_option maxRecDepth 100000 in
theorem t_X1_drawAndBlow {l : Launch} {G : zG} {X : zX} {K : Option Value → zS → Prop} {b : Nat} (hC : zC G X cX1_drawAndBlow 1 RX1 none) (hb : isR b) {N : Nat} {u : zS} (o : zS) (hf : f_X1_drawAndBlow N b u = some o) (hk : K none o) : zW dscC l rm_X1_drawAndBlow G X K u 0 [(0, .ref (G.1 b))] [] := by
  unfold f_X1_drawAndBlow at hf
  refine r_aload_n hC dX1_drawAndBlow_0 0 rfl ?_
  refine r_aload_n hC dX1_drawAndBlow_1 0 rfl ?_
  refine r_geti hC fd_RX1_34 (dR_0 hb) rfl dX1_drawAndBlow_2 ?_
  refine r_i2l hC dX1_drawAndBlow_5 ?_
  refine r_ldc2 hC cn_RX1_98 dX1_drawAndBlow_6 ?_
  refine r_lmul hC dX1_drawAndBlow_9 ?_
  refine r_ldc2 hC cn_RX1_100 dX1_drawAndBlow_10 ?_
  refine r_ladd hC dX1_drawAndBlow_13 ?_
  refine r_ldc2 hC cn_RX1_102 dX1_drawAndBlow_14 ?_
  refine r_land hC dX1_drawAndBlow_17 ?_
  refine r_l2i hC dX1_drawAndBlow_18 ?_
  refine r_puti hC fp_RX1_34 (dR_0 hb) rfl dX1_drawAndBlow_19 ?_
  refine r_tops (fun u1 eu1 => ?_)
  have hf := olet_at eu1 hf
  refine r_aload_n hC dX1_drawAndBlow_22 0 rfl ?_
  refine r_geti hC fd_RX1_34 (dR_0 hb) rfl dX1_drawAndBlow_23 ?_
  refine r_ldc hC cn_RX1_104 dX1_drawAndBlow_26 ?_
  refine r_idiv (x := (u1.1 b 10)) (y := 65536) hC dX1_drawAndBlow_28 (by decide) ?_
  refine r_iconst (v := 4) hC dX1_drawAndBlow_29 (by decide) ?_
  refine r_irem (x := ((u1.1 b 10) / 65536)) (y := 4) hC dX1_drawAndBlow_30 (by decide) ?_
  refine r_if_ne (tgt := 51) hC dX1_drawAndBlow_31 (by decide) (fun c2 => ?_) (fun c2 => ?_)
  · have hf := ite_f c2 hf
    have hf := Option.some.inj hf
    subst hf
    exact r_vret hC dX1_drawAndBlow_51 hk
  · have hf := ite_t c2 hf
    refine r_aload_n hC dX1_drawAndBlow_34 0 rfl ?_
    refine r_iconst (v := 1) hC dX1_drawAndBlow_35 (by decide) ?_
    refine r_aload_n hC dX1_drawAndBlow_36 0 rfl ?_
    refine r_geti hC fd_RX1_34 (dR_0 hb) rfl dX1_drawAndBlow_37 ?_
    refine r_sipush (v := 128) hC dX1_drawAndBlow_40 (by decide) ?_
    refine r_idiv (x := (u1.1 b 10)) (y := 128) hC dX1_drawAndBlow_43 (by decide) ?_
    refine r_bipush (v := 7) hC dX1_drawAndBlow_44 (by decide) ?_
    refine r_irem (x := ((u1.1 b 10) / 128)) (y := 7) hC dX1_drawAndBlow_46 (by decide) ?_
    refine r_iadd hC dX1_drawAndBlow_47 ?_
    obtain ⟨r3, er3, hf⟩ := ob_some hf
    refine r_cvv (As := [.int (1 + (((u1.1 b 10) / 128) - ((u1.1 b 10) / 128) / 7 * 7))]) (rest := []) hC (c_X1_blow hb er3) yv_X1_blow ml_RX1_105 (dR_0 hb) ⟨by decide, by decide, rfl, rfl⟩ rfl rfl (Nat.le_of_ble_eq_true rfl) dX1_drawAndBlow_48 ?_
    have hf := Option.some.inj hf
    subst hf
    exact r_vret hC dX1_drawAndBlow_51 hk
set_option maxHeartbeats 4000000 in
set_option maxRecDepth 100000 in
theorem c_X1_drawAndBlow {l : Launch} {G : zG} {b : Nat} (hb : isR b) {N : Nat} {u : zS} {r : zS} (hf : f_X1_drawAndBlow N b u = some r) : zM l dscC yX1_drawAndBlow cX1_drawAndBlow 1 none rm_X1_drawAndBlow G [.ref (G.1 b)] u none r := zM.of (by decide) (Nat.le_of_ble_eq_true rfl) (fun X hC => t_X1_drawAndBlow hC hb r hf ⟨rfl, rfl⟩)
set_option maxHeartbeats 4000000 in
set_option maxRecDepth 100000 in
theorem t_X1_walk_L5_B {l : Launch} {G : zG} {X : zX} {K : Option Value → zS → Prop} {b : Nat} (hC : zC G X cX1_walk 5 RX1 (some .int)) (hb : isR b) {N : Nat} {u : zS} {v2 : Int32} {rec : Int32 → Int32 → Option (Int32)} (hrec : ∀ (v3 : Int32) (v4 : Int32) (o : Int32), rec v3 v4 = some o → zW dscC l rm_X1_walk G X K u 30 [(3, .int o)] [] → zW dscC l rm_X1_walk G X K u 5 [(0, .ref (G.1 b)), (2, .int v2), (3, .int v3), (4, .int v4)] []) : ∀ (v3 : Int32) (v4 : Int32) (o : Int32), f_X1_walk_L5_B N b u v2 rec v3 v4 = some o → zW dscC l rm_X1_walk G X K u 30 [(3, .int o)] [] → zW dscC l rm_X1_walk G X K u 5 [(0, .ref (G.1 b)), (2, .int v2), (3, .int v3), (4, .int v4)] [] := by
  intro v3 v4 o hf hk
  unfold f_X1_walk_L5_B at hf
  refine r_iload hC dX1_walk_5 3 rfl ?_
  refine r_iload_n hC dX1_walk_7 1 rfl ?_
  refine r_icmp_ge (tgt := 30) hC dX1_walk_8 (by decide) (fun c1 => ?_) (fun c1 => ?_)
  · have hf := ite_t c1 hf
    have hf := Option.some.inj hf
    subst hf
    refine r_loc [2] rfl ?_
    exact hk
  · have hf := ite_f c1 hf
    refine r_aload_n hC dX1_walk_11 0 rfl ?_
    refine r_iload_n hC dX1_walk_12 2 rfl ?_
    refine r_aload_n hC dX1_walk_13 0 rfl ?_
    refine r_geti hC fd_RX1_47 (dR_0 hb) rfl dX1_walk_14 ?_
    refine r_iload hC dX1_walk_17 3 rfl ?_
    refine r_iadd hC dX1_walk_19 ?_
    obtain ⟨r2, er2, hf⟩ := ob_some hf
    refine r_cvi (As := [.int v3, .int ((u.1 b 9) + v4)]) (rest := []) hC (c_X1_goesOn hb er2) yv_X1_goesOn ml_RX1_92 (dR_0 hb) ⟨by decide, by decide, rfl, rfl⟩ rfl rfl (Nat.le_of_ble_eq_true rfl) dX1_walk_20 ?_
    refine r_istore_n (lv' := [(3, .int r2), (0, .ref (G.1 b)), (2, .int v2), (4, .int v4)]) hC dX1_walk_23 rfl (by decide) rfl ?_
    refine r_iinc (v := 1) (lv' := [(4, .int (v4 + 1)), (3, .int r2), (0, .ref (G.1 b)), (2, .int v2)]) hC dX1_walk_24 3 rfl (by decide) (by decide) rfl ?_
    refine r_goto (tgt := 5) hC dX1_walk_27 (by decide) ?_
    refine r_loc [2, 3, 1, 0] rfl ?_
    exact hrec r2 (v4 + 1) o hf hk
set_option maxHeartbeats 4000000 in
set_option maxRecDepth 100000 in
theorem t_X1_walk_L5 {l : Launch} {G : zG} {X : zX} {K : Option Value → zS → Prop} {b : Nat} (hC : zC G X cX1_walk 5 RX1 (some .int)) (hb : isR b) {N : Nat} {u : zS} {v2 : Int32} : ∀ (n : Nat) (v3 : Int32) (v4 : Int32) (o : Int32), f_X1_walk_L5 N b u v2 n v3 v4 = some o → zW dscC l rm_X1_walk G X K u 30 [(3, .int o)] [] → zW dscC l rm_X1_walk G X K u 5 [(0, .ref (G.1 b)), (2, .int v2), (3, .int v3), (4, .int v4)] [] := by
  intro n
  induction n with
  | zero => intro v3 v4 o hf; cases hf
  | succ n ih => intro v3 v4 o hf hk; exact t_X1_walk_L5_B hC hb (rec := f_X1_walk_L5 N b u v2 n) ih v3 v4 o hf hk
set_option maxHeartbeats 4000000 in
set_option maxRecDepth 100000 in
theorem t_X1_walk {l : Launch} {G : zG} {X : zX} {K : Option Value → zS → Prop} {b : Nat} (hC : zC G X cX1_walk 5 RX1 (some .int)) (hb : isR b) {N : Nat} {u : zS} {v1 : Int32} {v2 : Int32} (o : Int32) (hf : f_X1_walk N b u v1 v2 = some o) (hk : K (some (.int o)) u) : zW dscC l rm_X1_walk G X K u 0 [(0, .ref (G.1 b)), (1, .int v1), (2, .int v2)] [] := by
  unfold f_X1_walk at hf
  refine r_iload_n hC dX1_walk_0 1 rfl ?_
  refine r_istore_n (lv' := [(3, .int v1), (0, .ref (G.1 b)), (1, .int v1), (2, .int v2)]) hC dX1_walk_1 rfl (by decide) rfl ?_
  refine r_iconst (v := 0) hC dX1_walk_2 (by decide) ?_
  refine r_istore (lv' := [(4, .int 0), (3, .int v1), (0, .ref (G.1 b)), (1, .int v1), (2, .int v2)]) hC dX1_walk_3 (by decide) rfl ?_
  refine r_loc [2, 4, 1, 0] rfl ?_
  obtain ⟨q3, eq3, hf⟩ := ob_some hf
  refine t_X1_walk_L5 hC hb N v1 0 q3 eq3 ?_
  refine r_iload_n hC dX1_walk_30 0 rfl ?_
  have hf := Option.some.inj hf
  subst hf
  exact r_iret hC dX1_walk_31 hk
set_option maxHeartbeats 4000000 in
set_option maxRecDepth 100000 in
theorem c_X1_walk {l : Launch} {G : zG} {b : Nat} (hb : isR b) {N : Nat} {u : zS} {v1 : Int32} {v2 : Int32} {r : Int32} (hf : f_X1_walk N b u v1 v2 = some r) : zM l dscC yX1_walk cX1_walk 5 (some .int) rm_X1_walk G [.ref (G.1 b), .int v1, .int v2] u (some (.int r)) u := zM.of (by decide) (Nat.le_of_ble_eq_true rfl) (fun X hC => t_X1_walk hC hb r hf ⟨rfl, rfl⟩)
set_option maxHeartbeats 4000000 in
set_option maxRecDepth 100000 in
theorem t_X1_roundsTillBack_L12_B {l : Launch} {G : zG} {X : zX} {K : Option Value → zS → Prop} {b : Nat} (hC : zC G X cX1_roundsTillBack 4 RX1 (some .int)) (hb : isR b) {N : Nat} {u : zS} {v1 : Int32} {rec : Int32 → Int32 → Option (Int32)} (hrec : ∀ (v2 : Int32) (v3 : Int32) (o : Int32), rec v2 v3 = some o → zW dscC l rm_X1_roundsTillBack G X K u 39 [(2, .int o)] [] → zW dscC l rm_X1_roundsTillBack G X K u 12 [(0, .ref (G.1 b)), (1, .int v1), (2, .int v2), (3, .int v3)] []) : ∀ (v2 : Int32) (v3 : Int32) (o : Int32), f_X1_roundsTillBack_L12_B N b u v1 rec v2 v3 = some o → zW dscC l rm_X1_roundsTillBack G X K u 39 [(2, .int o)] [] → zW dscC l rm_X1_roundsTillBack G X K u 12 [(0, .ref (G.1 b)), (1, .int v1), (2, .int v2), (3, .int v3)] [] := by
  intro v2 v3 o hf hk
  unfold f_X1_roundsTillBack_L12_B at hf
  refine r_iload_n hC dX1_roundsTillBack_12 2 rfl ?_
  refine r_bipush (v := 8) hC dX1_roundsTillBack_13 (by decide) ?_
  refine r_icmp_ge (tgt := 39) hC dX1_roundsTillBack_15 (by decide) (fun c2 => ?_) (fun c2 => ?_)
  · have hf := ite_t c2 hf
    have hf := Option.some.inj hf
    subst hf
    refine r_loc [2] rfl ?_
    exact hk
  · have hf := ite_f c2 hf
    refine r_iload_n hC dX1_roundsTillBack_18 3 rfl ?_
    refine r_iload_n hC dX1_roundsTillBack_19 1 rfl ?_
    refine r_icmp_eq (tgt := 39) hC dX1_roundsTillBack_20 (by decide) (fun c3 => ?_) (fun c3 => ?_)
    · have hf := ite_t c3 hf
      have hf := Option.some.inj hf
      subst hf
      refine r_loc [2] rfl ?_
      exact hk
    · have hf := ite_f c3 hf
      refine r_aload_n hC dX1_roundsTillBack_23 0 rfl ?_
      refine r_iload_n hC dX1_roundsTillBack_24 3 rfl ?_
      refine r_aload_n hC dX1_roundsTillBack_25 0 rfl ?_
      refine r_geti hC fd_RX1_44 (dR_0 hb) rfl dX1_roundsTillBack_26 ?_
      obtain ⟨r4, er4, hf⟩ := ob_some hf
      refine r_cvi (As := [.int v3, .int (u.1 b 8)]) (rest := []) hC (c_X1_walk hb er4) yv_X1_walk ml_RX1_109 (dR_0 hb) ⟨by decide, by decide, rfl, rfl⟩ rfl rfl (Nat.le_of_ble_eq_true rfl) dX1_roundsTillBack_29 ?_
      refine r_istore_n (lv' := [(3, .int r4), (0, .ref (G.1 b)), (1, .int v1), (2, .int v2)]) hC dX1_roundsTillBack_32 rfl (by decide) rfl ?_
      refine r_iinc (v := 1) (lv' := [(2, .int (v2 + 1)), (3, .int r4), (0, .ref (G.1 b)), (1, .int v1)]) hC dX1_roundsTillBack_33 3 rfl (by decide) (by decide) rfl ?_
      refine r_goto (tgt := 12) hC dX1_roundsTillBack_36 (by decide) ?_
      refine r_loc [2, 3, 0, 1] rfl ?_
      exact hrec (v2 + 1) r4 o hf hk
set_option maxHeartbeats 4000000 in
set_option maxRecDepth 100000 in
theorem t_X1_roundsTillBack_L12 {l : Launch} {G : zG} {X : zX} {K : Option Value → zS → Prop} {b : Nat} (hC : zC G X cX1_roundsTillBack 4 RX1 (some .int)) (hb : isR b) {N : Nat} {u : zS} {v1 : Int32} : ∀ (n : Nat) (v2 : Int32) (v3 : Int32) (o : Int32), f_X1_roundsTillBack_L12 N b u v1 n v2 v3 = some o → zW dscC l rm_X1_roundsTillBack G X K u 39 [(2, .int o)] [] → zW dscC l rm_X1_roundsTillBack G X K u 12 [(0, .ref (G.1 b)), (1, .int v1), (2, .int v2), (3, .int v3)] [] := by
  intro n
  induction n with
  | zero => intro v2 v3 o hf; cases hf
  | succ n ih => intro v2 v3 o hf hk; exact t_X1_roundsTillBack_L12_B hC hb (rec := f_X1_roundsTillBack_L12 N b u v1 n) ih v2 v3 o hf hk
set_option maxHeartbeats 4000000 in
set_option maxRecDepth 100000 in
theorem t_X1_roundsTillBack {l : Launch} {G : zG} {X : zX} {K : Option Value → zS → Prop} {b : Nat} (hC : zC G X cX1_roundsTillBack 4 RX1 (some .int)) (hb : isR b) {N : Nat} {u : zS} {v1 : Int32} (o : Int32) (hf : f_X1_roundsTillBack N b u v1 = some o) (hk : K (some (.int o)) u) : zW dscC l rm_X1_roundsTillBack G X K u 0 [(0, .ref (G.1 b)), (1, .int v1)] [] := by
  unfold f_X1_roundsTillBack at hf
  refine r_iconst (v := 1) hC dX1_roundsTillBack_0 (by decide) ?_
  refine r_istore_n (lv' := [(2, .int 1), (0, .ref (G.1 b)), (1, .int v1)]) hC dX1_roundsTillBack_1 rfl (by decide) rfl ?_
  refine r_aload_n hC dX1_roundsTillBack_2 1 rfl ?_
  refine r_iload_n hC dX1_roundsTillBack_3 2 rfl ?_
  refine r_aload_n hC dX1_roundsTillBack_4 1 rfl ?_
  refine r_geti hC fd_RX1_44 (dR_0 hb) rfl dX1_roundsTillBack_5 ?_
  obtain ⟨r1, er1, hf⟩ := ob_some hf
  refine r_cvi (As := [.int v1, .int (u.1 b 8)]) (rest := []) hC (c_X1_walk hb er1) yv_X1_walk ml_RX1_109 (dR_0 hb) ⟨by decide, by decide, rfl, rfl⟩ rfl rfl (Nat.le_of_ble_eq_true rfl) dX1_roundsTillBack_8 ?_
  refine r_istore_n (lv' := [(3, .int r1), (2, .int 1), (0, .ref (G.1 b)), (1, .int v1)]) hC dX1_roundsTillBack_11 rfl (by decide) rfl ?_
  refine r_loc [2, 3, 1, 0] rfl ?_
  obtain ⟨q5, eq5, hf⟩ := ob_some hf
  refine t_X1_roundsTillBack_L12 hC hb N 1 r1 q5 eq5 ?_
  refine r_iload_n hC dX1_roundsTillBack_39 0 rfl ?_
  have hf := Option.some.inj hf
  subst hf
  exact r_iret hC dX1_roundsTillBack_40 hk
set_option maxHeartbeats 4000000 in
set_option maxRecDepth 100000 in
theorem c_X1_roundsTillBack {l : Launch} {G : zG} {b : Nat} (hb : isR b) {N : Nat} {u : zS} {v1 : Int32} {r : Int32} (hf : f_X1_roundsTillBack N b u v1 = some r) : zM l dscC yX1_roundsTillBack cX1_roundsTillBack 4 (some .int) rm_X1_roundsTillBack G [.ref (G.1 b), .int v1] u (some (.int r)) u := zM.of (by decide) (Nat.le_of_ble_eq_true rfl) (fun X hC => t_X1_roundsTillBack hC hb r hf ⟨rfl, rfl⟩)
set_option maxHeartbeats 4000000 in
set_option maxRecDepth 100000 in
theorem t_X1_placeBehind_L35_B {l : Launch} {G : zG} {X : zX} {K : Option Value → zS → Prop} {b : Nat} (hC : zC G X cX1_placeBehind 7 RX1 (some .int)) (hb : isR b) {N : Nat} {u : zS} {v2 : Int32} {v4 : Int32} {rec : Int32 → Int32 → Option (Int32)} (hrec : ∀ (v5 : Int32) (v6 : Int32) (o : Int32), rec v5 v6 = some o → zW dscC l rm_X1_placeBehind G X K u 60 [(0, .ref (G.1 b)), (2, .int v2), (5, .int o)] [] → zW dscC l rm_X1_placeBehind G X K u 35 [(0, .ref (G.1 b)), (2, .int v2), (4, .int v4), (5, .int v5), (6, .int v6)] []) : ∀ (v5 : Int32) (v6 : Int32) (o : Int32), f_X1_placeBehind_L35_B N b u v2 v4 rec v5 v6 = some o → zW dscC l rm_X1_placeBehind G X K u 60 [(0, .ref (G.1 b)), (2, .int v2), (5, .int o)] [] → zW dscC l rm_X1_placeBehind G X K u 35 [(0, .ref (G.1 b)), (2, .int v2), (4, .int v4), (5, .int v5), (6, .int v6)] [] := by
  intro v5 v6 o hf hk
  unfold f_X1_placeBehind_L35_B at hf
  refine r_iload hC dX1_placeBehind_35 4 rfl ?_
  refine r_iload hC dX1_placeBehind_37 2 rfl ?_
  refine r_icmp_ge (tgt := 60) hC dX1_placeBehind_39 (by decide) (fun c6 => ?_) (fun c6 => ?_)
  · have hf := ite_t c6 hf
    have hf := Option.some.inj hf
    subst hf
    refine r_loc [0, 1, 3] rfl ?_
    exact hk
  · have hf := ite_f c6 hf
    refine r_aload_n hC dX1_placeBehind_42 0 rfl ?_
    refine r_iload hC dX1_placeBehind_43 3 rfl ?_
    refine r_aload_n hC dX1_placeBehind_45 0 rfl ?_
    refine r_geti hC fd_RX1_44 (dR_0 hb) rfl dX1_placeBehind_46 ?_
    obtain ⟨r7, er7, hf⟩ := ob_some hf
    refine r_cvi (As := [.int v5, .int (u.1 b 8)]) (rest := []) hC (c_X1_walk hb er7) yv_X1_walk ml_RX1_109 (dR_0 hb) ⟨by decide, by decide, rfl, rfl⟩ rfl rfl (Nat.le_of_ble_eq_true rfl) dX1_placeBehind_49 ?_
    refine r_istore (lv' := [(5, .int r7), (0, .ref (G.1 b)), (2, .int v2), (4, .int v4), (6, .int v6)]) hC dX1_placeBehind_52 (by decide) rfl ?_
    refine r_iinc (v := 1) (lv' := [(6, .int (v6 + 1)), (5, .int r7), (0, .ref (G.1 b)), (2, .int v2), (4, .int v4)]) hC dX1_placeBehind_54 4 rfl (by decide) (by decide) rfl ?_
    refine r_goto (tgt := 35) hC dX1_placeBehind_57 (by decide) ?_
    refine r_loc [2, 3, 4, 1, 0] rfl ?_
    exact hrec r7 (v6 + 1) o hf hk
set_option maxHeartbeats 4000000 in
set_option maxRecDepth 100000 in
theorem t_X1_placeBehind_L35 {l : Launch} {G : zG} {X : zX} {K : Option Value → zS → Prop} {b : Nat} (hC : zC G X cX1_placeBehind 7 RX1 (some .int)) (hb : isR b) {N : Nat} {u : zS} {v2 : Int32} {v4 : Int32} : ∀ (n : Nat) (v5 : Int32) (v6 : Int32) (o : Int32), f_X1_placeBehind_L35 N b u v2 v4 n v5 v6 = some o → zW dscC l rm_X1_placeBehind G X K u 60 [(0, .ref (G.1 b)), (2, .int v2), (5, .int o)] [] → zW dscC l rm_X1_placeBehind G X K u 35 [(0, .ref (G.1 b)), (2, .int v2), (4, .int v4), (5, .int v5), (6, .int v6)] [] := by
  intro n
  induction n with
  | zero => intro v5 v6 o hf; cases hf
  | succ n ih => intro v5 v6 o hf hk; exact t_X1_placeBehind_L35_B hC hb (rec := f_X1_placeBehind_L35 N b u v2 v4 n) ih v5 v6 o hf hk
set_option maxHeartbeats 4000000 in
set_option maxRecDepth 100000 in
theorem t_X1_placeBehind {l : Launch} {G : zG} {X : zX} {K : Option Value → zS → Prop} {b : Nat} (hC : zC G X cX1_placeBehind 7 RX1 (some .int)) (hb : isR b) {N : Nat} {u : zS} {v1 : Int32} {v2 : Int32} (o : Int32) (hf : f_X1_placeBehind N b u v1 v2 = some o) (hk : K (some (.int o)) u) : zW dscC l rm_X1_placeBehind G X K u 0 [(0, .ref (G.1 b)), (1, .int v1), (2, .int v2)] [] := by
  unfold f_X1_placeBehind at hf
  refine r_aload_n hC dX1_placeBehind_0 0 rfl ?_
  refine r_iload_n hC dX1_placeBehind_1 1 rfl ?_
  obtain ⟨r1, er1, hf⟩ := ob_some hf
  refine r_cvi (As := [.int v1]) (rest := []) hC (c_X1_roundsTillBack hb er1) yv_X1_roundsTillBack ml_RX1_112 (dR_0 hb) ⟨by decide, by decide, rfl, rfl⟩ rfl rfl (Nat.le_of_ble_eq_true rfl) dX1_placeBehind_2 ?_
  refine r_istore_n (lv' := [(3, .int r1), (0, .ref (G.1 b)), (1, .int v1), (2, .int v2)]) hC dX1_placeBehind_5 rfl (by decide) rfl ?_
  refine r_aload_n hC dX1_placeBehind_6 1 rfl ?_
  refine r_geti hC fd_RX1_44 (dR_0 hb) rfl dX1_placeBehind_7 ?_
  refine r_if_le (tgt := 17) hC dX1_placeBehind_10 (by decide) (fun c2 => ?_) (fun c2 => ?_)
  · have hf := ite_t c2 hf
    refine r_iload_n hC dX1_placeBehind_17 2 rfl ?_
    have hf := Option.some.inj hf
    subst hf
    exact r_iret hC dX1_placeBehind_18 hk
  · have hf := ite_f c2 hf
    refine r_iload_n hC dX1_placeBehind_13 0 rfl ?_
    refine r_if_gt (tgt := 19) hC dX1_placeBehind_14 (by decide) (fun c3 => ?_) (fun c3 => ?_)
    · have hf := ite_t c3 hf
      refine r_iload_n hC dX1_placeBehind_19 3 rfl ?_
      refine r_aload_n hC dX1_placeBehind_20 1 rfl ?_
      refine r_geti hC fd_RX1_44 (dR_0 hb) rfl dX1_placeBehind_21 ?_
      obtain ⟨g4, hf⟩ := og_ne hf
      refine r_idiv (x := v2) (y := (u.1 b 8)) hC dX1_placeBehind_24 g4 ?_
      refine r_iload_n hC dX1_placeBehind_25 0 rfl ?_
      obtain ⟨g5, hf⟩ := og_ne hf
      refine r_irem (x := (v2 / (u.1 b 8))) (y := r1) hC dX1_placeBehind_26 g5 ?_
      refine r_istore (lv' := [(4, .int ((v2 / (u.1 b 8)) - (v2 / (u.1 b 8)) / r1 * r1)), (3, .int r1), (0, .ref (G.1 b)), (1, .int v1), (2, .int v2)]) hC dX1_placeBehind_27 (by decide) rfl ?_
      refine r_iload_n hC dX1_placeBehind_29 3 rfl ?_
      refine r_istore (lv' := [(5, .int v1), (4, .int ((v2 / (u.1 b 8)) - (v2 / (u.1 b 8)) / r1 * r1)), (3, .int r1), (0, .ref (G.1 b)), (1, .int v1), (2, .int v2)]) hC dX1_placeBehind_30 (by decide) rfl ?_
      refine r_iconst (v := 0) hC dX1_placeBehind_32 (by decide) ?_
      refine r_istore (lv' := [(6, .int 0), (5, .int v1), (4, .int ((v2 / (u.1 b 8)) - (v2 / (u.1 b 8)) / r1 * r1)), (3, .int r1), (0, .ref (G.1 b)), (1, .int v1), (2, .int v2)]) hC dX1_placeBehind_33 (by decide) rfl ?_
      refine r_loc [4, 6, 2, 1, 0] rfl ?_
      obtain ⟨q8, eq8, hf⟩ := ob_some hf
      refine t_X1_placeBehind_L35 hC hb N v1 0 q8 eq8 ?_
      refine r_aload_n hC dX1_placeBehind_60 0 rfl ?_
      refine r_iload hC dX1_placeBehind_61 2 rfl ?_
      refine r_iload_n hC dX1_placeBehind_63 1 rfl ?_
      refine r_aload_n hC dX1_placeBehind_64 0 rfl ?_
      refine r_geti hC fd_RX1_44 (dR_0 hb) rfl dX1_placeBehind_65 ?_
      obtain ⟨g9, hf⟩ := og_ne hf
      refine r_irem (x := v2) (y := (u.1 b 8)) hC dX1_placeBehind_68 g9 ?_
      obtain ⟨r10, er10, hf⟩ := ob_some hf
      refine r_cvi (As := [.int q8, .int (v2 - v2 / (u.1 b 8) * (u.1 b 8))]) (rest := []) hC (c_X1_walk hb er10) yv_X1_walk ml_RX1_109 (dR_0 hb) ⟨by decide, by decide, rfl, rfl⟩ rfl rfl (Nat.le_of_ble_eq_true rfl) dX1_placeBehind_69 ?_
      have hf := Option.some.inj hf
      subst hf
      exact r_iret hC dX1_placeBehind_72 hk
    · have hf := ite_f c3 hf
      refine r_iload_n hC dX1_placeBehind_17 2 rfl ?_
      have hf := Option.some.inj hf
      subst hf
      exact r_iret hC dX1_placeBehind_18 hk
set_option maxHeartbeats 4000000 in
set_option maxRecDepth 100000 in
theorem c_X1_placeBehind {l : Launch} {G : zG} {b : Nat} (hb : isR b) {N : Nat} {u : zS} {v1 : Int32} {v2 : Int32} {r : Int32} (hf : f_X1_placeBehind N b u v1 v2 = some r) : zM l dscC yX1_placeBehind cX1_placeBehind 7 (some .int) rm_X1_placeBehind G [.ref (G.1 b), .int v1, .int v2] u (some (.int r)) u := zM.of (by decide) (Nat.le_of_ble_eq_true rfl) (fun X hC => t_X1_placeBehind hC hb r hf ⟨rfl, rfl⟩)
set_option maxHeartbeats 4000000 in
set_option maxRecDepth 100000 in
theorem t_X2_comeTo {l : Launch} {G : zG} {X : zX} {K : Option Value → zS → Prop} (hC : zC G X cX2_comeTo 4 RX2 none) {u : zS} {v1 : Int32} {v2 : Int32} {v3 : Int32} (o : zS) (hf : f_X2_comeTo u v1 v2 v3 = some o) (hk : K none o) : zW dscC l rm_X2_comeTo G X K u 0 [(0, .ref (G.1 37)), (1, .int v1), (2, .int v2), (3, .int v3)] [] := by
  unfold f_X2_comeTo at hf
  refine r_aload_n hC dX2_comeTo_0 0 rfl ?_
  refine r_getr hC fd_RX2_9 dC_37 rfl dX2_comeTo_1 ?_
  refine r_iload_n hC dX2_comeTo_4 1 rfl ?_
  obtain ⟨g1, hf⟩ := og_in hf
  refine r_iald hC dC_38 g1 dX2_comeTo_5 ?_
  refine r_bipush (v := (-4)) hC dX2_comeTo_6 (by decide) ?_
  refine r_icmp_ne (tgt := 21) hC dX2_comeTo_8 (by decide) (fun c2 => ?_) (fun c2 => ?_)
  · have hf := ite_f c2 hf
    have hf := Option.some.inj hf
    subst hf
    exact r_vret hC dX2_comeTo_21 hk
  · have hf := ite_t c2 hf
    refine r_aload_n hC dX2_comeTo_11 0 rfl ?_
    refine r_geti hC fd_RX2_24 dC_37 rfl dX2_comeTo_12 ?_
    refine r_sipush (v := 256) hC dX2_comeTo_15 (by decide) ?_
    refine r_icmp_lt (tgt := 22) hC dX2_comeTo_18 (by decide) (fun c3 => ?_) (fun c3 => ?_)
    · have hf := ite_t c3 hf
      refine r_aload_n hC dX2_comeTo_22 0 rfl ?_
      refine r_getr hC fd_RX2_9 dC_37 rfl dX2_comeTo_23 ?_
      refine r_iload_n hC dX2_comeTo_26 1 rfl ?_
      refine r_aload_n hC dX2_comeTo_27 0 rfl ?_
      refine r_getr hC fd_RX2_9 dC_37 rfl dX2_comeTo_28 ?_
      refine r_iload_n hC dX2_comeTo_31 2 rfl ?_
      obtain ⟨g4, hf⟩ := og_in hf
      refine r_iald hC dC_38 g4 dX2_comeTo_32 ?_
      refine r_iconst (v := 1) hC dX2_comeTo_33 (by decide) ?_
      refine r_iadd hC dX2_comeTo_34 ?_
      obtain ⟨g5, hf⟩ := og_in hf
      refine r_iast hC dC_38 g5 dX2_comeTo_35 ?_
      refine r_tops (fun u6 eu6 => ?_)
      have hf := olet_at eu6 hf
      refine r_aload_n hC dX2_comeTo_36 0 rfl ?_
      refine r_getr hC fd_RX2_15 dC_37 rfl dX2_comeTo_37 ?_
      refine r_iload_n hC dX2_comeTo_40 1 rfl ?_
      refine r_iload_n hC dX2_comeTo_41 2 rfl ?_
      obtain ⟨g7, hf⟩ := og_in hf
      refine r_iast hC dC_39 g7 dX2_comeTo_42 ?_
      refine r_tops (fun u8 eu8 => ?_)
      have hf := olet_at eu8 hf
      refine r_aload_n hC dX2_comeTo_43 0 rfl ?_
      refine r_getr hC fd_RX2_18 dC_37 rfl dX2_comeTo_44 ?_
      refine r_iload_n hC dX2_comeTo_47 1 rfl ?_
      refine r_iload_n hC dX2_comeTo_48 3 rfl ?_
      obtain ⟨g9, hf⟩ := og_in hf
      refine r_iast hC dC_40 g9 dX2_comeTo_49 ?_
      refine r_tops (fun u10 eu10 => ?_)
      have hf := olet_at eu10 hf
      refine r_aload_n hC dX2_comeTo_50 0 rfl ?_
      refine r_getr hC fd_RX2_21 dC_37 rfl dX2_comeTo_51 ?_
      refine r_aload_n hC dX2_comeTo_54 0 rfl ?_
      refine r_geti hC fd_RX2_24 dC_37 rfl dX2_comeTo_55 ?_
      refine r_iload_n hC dX2_comeTo_58 1 rfl ?_
      obtain ⟨g11, hf⟩ := og_in hf
      refine r_iast hC dC_41 g11 dX2_comeTo_59 ?_
      refine r_tops (fun u12 eu12 => ?_)
      have hf := olet_at eu12 hf
      refine r_aload_n hC dX2_comeTo_60 0 rfl ?_
      refine r_dup hC dX2_comeTo_61 rfl ?_
      refine r_geti hC fd_RX2_24 dC_37 rfl dX2_comeTo_62 ?_
      refine r_iconst (v := 1) hC dX2_comeTo_65 (by decide) ?_
      refine r_iadd hC dX2_comeTo_66 ?_
      refine r_puti hC fp_RX2_24 dC_37 rfl dX2_comeTo_67 ?_
      refine r_tops (fun u13 eu13 => ?_)
      have hf := olet_at eu13 hf
      have hf := Option.some.inj hf
      subst hf
      exact r_vret hC dX2_comeTo_70 hk
    · have hf := ite_f c3 hf
      have hf := Option.some.inj hf
      subst hf
      exact r_vret hC dX2_comeTo_21 hk
set_option maxHeartbeats 4000000 in
set_option maxRecDepth 100000 in
theorem c_X2_comeTo {l : Launch} {G : zG} {u : zS} {v1 : Int32} {v2 : Int32} {v3 : Int32} {r : zS} (hf : f_X2_comeTo u v1 v2 v3 = some r) : zM l dscC yX2_comeTo cX2_comeTo 4 none rm_X2_comeTo G [.ref (G.1 37), .int v1, .int v2, .int v3] u none r := zM.of (by decide) (Nat.le_of_ble_eq_true rfl) (fun X hC => t_X2_comeTo hC r hf ⟨rfl, rfl⟩)
set_option maxHeartbeats 4000000 in
set_option maxRecDepth 100000 in
theorem t_X2_explore_L2_B {l : Launch} {G : zG} {X : zX} {K : Option Value → zS → Prop} (hC : zC G X cX2_explore 5 RX2 none) {N : Nat} {v2 : Int32} {rec : zS → Int32 → Option (zS)} (hrec : ∀ (u : zS) (v3 : Int32) (o : zS), rec u v3 = some o → zW dscC l rm_X2_explore G X K o 23 [(0, .ref (G.1 37)), (1, .ref (G.1 1)), (2, .int v2)] [] → zW dscC l rm_X2_explore G X K u 2 [(0, .ref (G.1 37)), (1, .ref (G.1 1)), (2, .int v2), (3, .int v3)] []) : ∀ (u : zS) (v3 : Int32) (o : zS), f_X2_explore_L2_B N v2 rec u v3 = some o → zW dscC l rm_X2_explore G X K o 23 [(0, .ref (G.1 37)), (1, .ref (G.1 1)), (2, .int v2)] [] → zW dscC l rm_X2_explore G X K u 2 [(0, .ref (G.1 37)), (1, .ref (G.1 1)), (2, .int v2), (3, .int v3)] [] := by
  intro u v3 o hf hk
  unfold f_X2_explore_L2_B at hf
  refine r_iload_n hC dX2_explore_2 3 rfl ?_
  refine r_sipush (v := 256) hC dX2_explore_3 (by decide) ?_
  refine r_icmp_ge (tgt := 23) hC dX2_explore_6 (by decide) (fun c1 => ?_) (fun c1 => ?_)
  · have hf := ite_t c1 hf
    have hf := Option.some.inj hf
    subst hf
    refine r_loc [0, 1, 2] rfl ?_
    exact hk
  · have hf := ite_f c1 hf
    refine r_aload_n hC dX2_explore_9 0 rfl ?_
    refine r_getr hC fd_RX2_9 dC_37 rfl dX2_explore_10 ?_
    refine r_iload_n hC dX2_explore_13 3 rfl ?_
    refine r_bipush (v := (-4)) hC dX2_explore_14 (by decide) ?_
    obtain ⟨g2, hf⟩ := og_in hf
    refine r_iast hC dC_38 g2 dX2_explore_16 ?_
    refine r_tops (fun u3 eu3 => ?_)
    have hf := olet_at eu3 hf
    refine r_iinc (v := 1) (lv' := [(3, .int (v3 + 1)), (0, .ref (G.1 37)), (1, .ref (G.1 1)), (2, .int v2)]) hC dX2_explore_17 3 rfl (by decide) (by decide) rfl ?_
    refine r_goto (tgt := 2) hC dX2_explore_20 (by decide) ?_
    refine r_loc [1, 2, 3, 0] rfl ?_
    exact hrec u3 (v3 + 1) o hf hk
set_option maxHeartbeats 4000000 in
set_option maxRecDepth 100000 in
theorem t_X2_explore_L2 {l : Launch} {G : zG} {X : zX} {K : Option Value → zS → Prop} (hC : zC G X cX2_explore 5 RX2 none) {N : Nat} {v2 : Int32} : ∀ (n : Nat) (u : zS) (v3 : Int32) (o : zS), f_X2_explore_L2 N v2 n u v3 = some o → zW dscC l rm_X2_explore G X K o 23 [(0, .ref (G.1 37)), (1, .ref (G.1 1)), (2, .int v2)] [] → zW dscC l rm_X2_explore G X K u 2 [(0, .ref (G.1 37)), (1, .ref (G.1 1)), (2, .int v2), (3, .int v3)] [] := by
  intro n
  induction n with
  | zero => intro u v3 o hf; cases hf
  | succ n ih => intro u v3 o hf hk; exact t_X2_explore_L2_B hC (rec := f_X2_explore_L2 N v2 n) ih u v3 o hf hk
set_option maxHeartbeats 4000000 in
set_option maxRecDepth 100000 in
theorem t_X2_explore_L62_B {l : Launch} {G : zG} {X : zX} {K : Option Value → zS → Prop} (hC : zC G X cX2_explore 5 RX2 none) {N : Nat} {v3 : Int32} {rec : zS → Int32 → Option (zS)} (hrec : ∀ (u : zS) (v4 : Int32) (o : zS), rec u v4 = some o → zW dscC l rm_X2_explore G X K o 101 [(0, .ref (G.1 37)), (1, .ref (G.1 1)), (3, .int v3)] [] → zW dscC l rm_X2_explore G X K u 62 [(0, .ref (G.1 37)), (1, .ref (G.1 1)), (3, .int v3), (4, .int v4)] []) : ∀ (u : zS) (v4 : Int32) (o : zS), f_X2_explore_L62_B N v3 rec u v4 = some o → zW dscC l rm_X2_explore G X K o 101 [(0, .ref (G.1 37)), (1, .ref (G.1 1)), (3, .int v3)] [] → zW dscC l rm_X2_explore G X K u 62 [(0, .ref (G.1 37)), (1, .ref (G.1 1)), (3, .int v3), (4, .int v4)] [] := by
  intro u v4 o hf hk
  unfold f_X2_explore_L62_B at hf
  refine r_iload hC dX2_explore_62 3 rfl ?_
  refine r_aload_n hC dX2_explore_64 1 rfl ?_
  refine r_geti hC fd_RX2_28 dC_1 rfl dX2_explore_65 ?_
  refine r_icmp_ge (tgt := 101) hC dX2_explore_68 (by decide) (fun c11 => ?_) (fun c11 => ?_)
  · have hf := ite_t c11 hf
    have hf := Option.some.inj hf
    subst hf
    refine r_loc [0, 1, 2] rfl ?_
    exact hk
  · have hf := ite_f c11 hf
    refine r_aload_n hC dX2_explore_71 0 rfl ?_
    refine r_aload_n hC dX2_explore_72 1 rfl ?_
    refine r_iload hC dX2_explore_73 3 rfl ?_
    refine r_aload_n hC dX2_explore_75 0 rfl ?_
    refine r_getr hC fd_RX2_21 dC_37 rfl dX2_explore_76 ?_
    refine r_iload_n hC dX2_explore_79 2 rfl ?_
    obtain ⟨g12, hf⟩ := og_in hf
    refine r_iald hC dC_41 g12 dX2_explore_80 ?_
    obtain ⟨r13, er13, hf⟩ := ob_some hf
    refine r_cvi (As := [.int v4, .int (u.1 41 (Int32.toNatClampNeg v3))]) (rest := [.ref (G.1 37)]) hC (c_X1_setLedBy isR_1 er13) yv_X1_setLedBy ml_RX2_33 dC_1 ⟨by decide, by decide, rfl, rfl⟩ rfl rfl (Nat.le_of_ble_eq_true rfl) dX2_explore_81 ?_
    refine r_aload_n hC dX2_explore_84 0 rfl ?_
    refine r_getr hC fd_RX2_21 dC_37 rfl dX2_explore_85 ?_
    refine r_iload_n hC dX2_explore_88 2 rfl ?_
    obtain ⟨g14, hf⟩ := og_in hf
    refine r_iald hC dC_41 g14 dX2_explore_89 ?_
    refine r_iload hC dX2_explore_90 3 rfl ?_
    obtain ⟨r15, er15, hf⟩ := ob_some hf
    refine r_cvv (As := [.int r13, .int (u.1 41 (Int32.toNatClampNeg v3)), .int v4]) (rest := []) hC (c_X2_comeTo er15) yv_X2_comeTo ml_RX2_37 dC_37 ⟨by decide, by decide, rfl, rfl⟩ rfl rfl (Nat.le_of_ble_eq_true rfl) dX2_explore_92 ?_
    refine r_iinc (v := 1) (lv' := [(4, .int (v4 + 1)), (0, .ref (G.1 37)), (1, .ref (G.1 1)), (3, .int v3)]) hC dX2_explore_95 3 rfl (by decide) (by decide) rfl ?_
    refine r_goto (tgt := 62) hC dX2_explore_98 (by decide) ?_
    refine r_loc [1, 2, 3, 0] rfl ?_
    exact hrec r15 (v4 + 1) o hf hk
set_option maxHeartbeats 4000000 in
set_option maxRecDepth 100000 in
theorem t_X2_explore_L62 {l : Launch} {G : zG} {X : zX} {K : Option Value → zS → Prop} (hC : zC G X cX2_explore 5 RX2 none) {N : Nat} {v3 : Int32} : ∀ (n : Nat) (u : zS) (v4 : Int32) (o : zS), f_X2_explore_L62 N v3 n u v4 = some o → zW dscC l rm_X2_explore G X K o 101 [(0, .ref (G.1 37)), (1, .ref (G.1 1)), (3, .int v3)] [] → zW dscC l rm_X2_explore G X K u 62 [(0, .ref (G.1 37)), (1, .ref (G.1 1)), (3, .int v3), (4, .int v4)] [] := by
  intro n
  induction n with
  | zero => intro u v4 o hf; cases hf
  | succ n ih => intro u v4 o hf hk; exact t_X2_explore_L62_B hC (rec := f_X2_explore_L62 N v3 n) ih u v4 o hf hk
set_option maxHeartbeats 4000000 in
set_option maxRecDepth 100000 in
theorem t_X2_explore_L44_B {l : Launch} {G : zG} {X : zX} {K : Option Value → zS → Prop} (hC : zC G X cX2_explore 5 RX2 none) {N : Nat} {rec : zS → Int32 → Option (zS)} (hrec : ∀ (u : zS) (v3 : Int32) (o : zS), rec u v3 = some o → zW dscC l rm_X2_explore G X K o 107 [] [] → zW dscC l rm_X2_explore G X K u 44 [(0, .ref (G.1 37)), (1, .ref (G.1 1)), (3, .int v3)] []) : ∀ (u : zS) (v3 : Int32) (o : zS), f_X2_explore_L44_B N rec u v3 = some o → zW dscC l rm_X2_explore G X K o 107 [] [] → zW dscC l rm_X2_explore G X K u 44 [(0, .ref (G.1 37)), (1, .ref (G.1 1)), (3, .int v3)] [] := by
  intro u v3 o hf hk
  unfold f_X2_explore_L44_B at hf
  refine r_iload_n hC dX2_explore_44 2 rfl ?_
  refine r_aload_n hC dX2_explore_45 0 rfl ?_
  refine r_geti hC fd_RX2_24 dC_37 rfl dX2_explore_46 ?_
  refine r_icmp_ge (tgt := 107) hC dX2_explore_49 (by decide) (fun c9 => ?_) (fun c9 => ?_)
  · have hf := ite_t c9 hf
    have hf := Option.some.inj hf
    subst hf
    refine r_loc [] rfl ?_
    exact hk
  · have hf := ite_f c9 hf
    refine r_iload_n hC dX2_explore_52 2 rfl ?_
    refine r_sipush (v := 256) hC dX2_explore_53 (by decide) ?_
    refine r_icmp_ge (tgt := 107) hC dX2_explore_56 (by decide) (fun c10 => ?_) (fun c10 => ?_)
    · have hf := ite_t c10 hf
      have hf := Option.some.inj hf
      subst hf
      refine r_loc [] rfl ?_
      exact hk
    · have hf := ite_f c10 hf
      refine r_iconst (v := 0) hC dX2_explore_59 (by decide) ?_
      refine r_istore (lv' := [(4, .int 0), (0, .ref (G.1 37)), (1, .ref (G.1 1)), (3, .int v3)]) hC dX2_explore_60 (by decide) rfl ?_
      refine r_loc [1, 2, 3, 0] rfl ?_
      obtain ⟨q16, eq16, hf⟩ := ob_some hf
      refine t_X2_explore_L62 hC N u 0 q16 eq16 ?_
      refine r_iinc (v := 1) (lv' := [(3, .int (v3 + 1)), (0, .ref (G.1 37)), (1, .ref (G.1 1))]) hC dX2_explore_101 2 rfl (by decide) (by decide) rfl ?_
      refine r_goto (tgt := 44) hC dX2_explore_104 (by decide) ?_
      refine r_loc [1, 2, 0] rfl ?_
      exact hrec q16 (v3 + 1) o hf hk
set_option maxHeartbeats 4000000 in
set_option maxRecDepth 100000 in
theorem t_X2_explore_L44 {l : Launch} {G : zG} {X : zX} {K : Option Value → zS → Prop} (hC : zC G X cX2_explore 5 RX2 none) {N : Nat} : ∀ (n : Nat) (u : zS) (v3 : Int32) (o : zS), f_X2_explore_L44 N n u v3 = some o → zW dscC l rm_X2_explore G X K o 107 [] [] → zW dscC l rm_X2_explore G X K u 44 [(0, .ref (G.1 37)), (1, .ref (G.1 1)), (3, .int v3)] [] := by
  intro n
  induction n with
  | zero => intro u v3 o hf; cases hf
  | succ n ih => intro u v3 o hf hk; exact t_X2_explore_L44_B hC (rec := f_X2_explore_L44 N n) ih u v3 o hf hk
set_option maxHeartbeats 4000000 in
set_option maxRecDepth 100000 in
theorem t_X2_explore {l : Launch} {G : zG} {X : zX} {K : Option Value → zS → Prop} (hC : zC G X cX2_explore 5 RX2 none) {N : Nat} {u : zS} {v2 : Int32} (o : zS) (hf : f_X2_explore N u v2 = some o) (hk : K none o) : zW dscC l rm_X2_explore G X K u 0 [(0, .ref (G.1 37)), (1, .ref (G.1 1)), (2, .int v2)] [] := by
  unfold f_X2_explore at hf
  refine r_iconst (v := 0) hC dX2_explore_0 (by decide) ?_
  refine r_istore_n (lv' := [(3, .int 0), (0, .ref (G.1 37)), (1, .ref (G.1 1)), (2, .int v2)]) hC dX2_explore_1 rfl (by decide) rfl ?_
  refine r_loc [1, 2, 3, 0] rfl ?_
  obtain ⟨q4, eq4, hf⟩ := ob_some hf
  refine t_X2_explore_L2 hC N u 0 q4 eq4 ?_
  refine r_aload_n hC dX2_explore_23 0 rfl ?_
  refine r_getr hC fd_RX2_9 dC_37 rfl dX2_explore_24 ?_
  refine r_iload_n hC dX2_explore_27 2 rfl ?_
  refine r_iconst (v := 0) hC dX2_explore_28 (by decide) ?_
  obtain ⟨g5, hf⟩ := og_in hf
  refine r_iast hC dC_38 g5 dX2_explore_29 ?_
  refine r_tops (fun u6 eu6 => ?_)
  have hf := olet_at eu6 hf
  refine r_aload_n hC dX2_explore_30 0 rfl ?_
  refine r_getr hC fd_RX2_21 dC_37 rfl dX2_explore_31 ?_
  refine r_iconst (v := 0) hC dX2_explore_34 (by decide) ?_
  refine r_iload_n hC dX2_explore_35 2 rfl ?_
  refine r_iastK (j := 0) hC dC_41 (inK (by decide)) dX2_explore_36 ?_
  refine r_tops (fun u7 eu7 => ?_)
  have hf := olet_at eu7 hf
  refine r_aload_n hC dX2_explore_37 0 rfl ?_
  refine r_iconst (v := 1) hC dX2_explore_38 (by decide) ?_
  refine r_puti hC fp_RX2_24 dC_37 rfl dX2_explore_39 ?_
  refine r_tops (fun u8 eu8 => ?_)
  have hf := olet_at eu8 hf
  refine r_iconst (v := 0) hC dX2_explore_42 (by decide) ?_
  refine r_istore_n (lv' := [(3, .int 0), (0, .ref (G.1 37)), (1, .ref (G.1 1)), (2, .int v2)]) hC dX2_explore_43 rfl (by decide) rfl ?_
  refine r_loc [1, 2, 0] rfl ?_
  obtain ⟨q17, eq17, hf⟩ := ob_some hf
  refine t_X2_explore_L44 hC N u8 0 q17 eq17 ?_
  have hf := Option.some.inj hf
  subst hf
  exact r_vret hC dX2_explore_107 hk
set_option maxHeartbeats 4000000 in
set_option maxRecDepth 100000 in
theorem c_X2_explore {l : Launch} {G : zG} {N : Nat} {u : zS} {v2 : Int32} {r : zS} (hf : f_X2_explore N u v2 = some r) : zM l dscC yX2_explore cX2_explore 5 none rm_X2_explore G [.ref (G.1 37), .ref (G.1 1), .int v2] u none r := zM.of (by decide) (Nat.le_of_ble_eq_true rfl) (fun X hC => t_X2_explore hC r hf ⟨rfl, rfl⟩)
set_option maxHeartbeats 4000000 in
set_option maxRecDepth 100000 in
theorem t_X2_howFar {l : Launch} {G : zG} {X : zX} {K : Option Value → zS → Prop} (hC : zC G X cX2_howFar 2 RX2 (some .int)) {u : zS} {v1 : Int32} (o : Int32) (hf : f_X2_howFar u v1 = some o) (hk : K (some (.int o)) u) : zW dscC l rm_X2_howFar G X K u 0 [(0, .ref (G.1 37)), (1, .int v1)] [] := by
  unfold f_X2_howFar at hf
  refine r_aload_n hC dX2_howFar_0 0 rfl ?_
  refine r_getr hC fd_RX2_9 dC_37 rfl dX2_howFar_1 ?_
  refine r_iload_n hC dX2_howFar_4 1 rfl ?_
  obtain ⟨g1, hf⟩ := og_in hf
  refine r_iald hC dC_38 g1 dX2_howFar_5 ?_
  have hf := Option.some.inj hf
  subst hf
  exact r_iret hC dX2_howFar_6 hk
set_option maxHeartbeats 4000000 in
set_option maxRecDepth 100000 in
theorem c_X2_howFar {l : Launch} {G : zG} {u : zS} {v1 : Int32} {r : Int32} (hf : f_X2_howFar u v1 = some r) : zM l dscC yX2_howFar cX2_howFar 2 (some .int) rm_X2_howFar G [.ref (G.1 37), .int v1] u (some (.int r)) u := zM.of (by decide) (Nat.le_of_ble_eq_true rfl) (fun X hC => t_X2_howFar hC r hf ⟨rfl, rfl⟩)
set_option maxHeartbeats 4000000 in
set_option maxRecDepth 100000 in
theorem t_X2_figureOnWay_L36_B {l : Launch} {G : zG} {X : zX} {K : Option Value → zS → Prop} (hC : zC G X cX2_figureOnWay 5 RX2 (some .int)) {N : Nat} {u : zS} {v2 : Int32} {rec : Int32 → Int32 → Option (Int32)} (hrec : ∀ (v3 : Int32) (v4 : Int32) (o : Int32), rec v3 v4 = some o → zW dscC l rm_X2_figureOnWay G X K u 55 [(0, .ref (G.1 37)), (3, .int o)] [] → zW dscC l rm_X2_figureOnWay G X K u 36 [(0, .ref (G.1 37)), (2, .int v2), (3, .int v3), (4, .int v4)] []) : ∀ (v3 : Int32) (v4 : Int32) (o : Int32), f_X2_figureOnWay_L36_B N u v2 rec v3 v4 = some o → zW dscC l rm_X2_figureOnWay G X K u 55 [(0, .ref (G.1 37)), (3, .int o)] [] → zW dscC l rm_X2_figureOnWay G X K u 36 [(0, .ref (G.1 37)), (2, .int v2), (3, .int v3), (4, .int v4)] [] := by
  intro v3 v4 o hf hk
  unfold f_X2_figureOnWay_L36_B at hf
  refine r_iload hC dX2_figureOnWay_36 3 rfl ?_
  refine r_iload_n hC dX2_figureOnWay_38 1 rfl ?_
  refine r_icmp_le (tgt := 55) hC dX2_figureOnWay_39 (by decide) (fun c6 => ?_) (fun c6 => ?_)
  · have hf := ite_t c6 hf
    have hf := Option.some.inj hf
    subst hf
    refine r_loc [0, 2] rfl ?_
    exact hk
  · have hf := ite_f c6 hf
    refine r_aload_n hC dX2_figureOnWay_42 0 rfl ?_
    refine r_getr hC fd_RX2_15 dC_37 rfl dX2_figureOnWay_43 ?_
    refine r_iload_n hC dX2_figureOnWay_46 2 rfl ?_
    obtain ⟨g7, hf⟩ := og_in hf
    refine r_iald hC dC_39 g7 dX2_figureOnWay_47 ?_
    refine r_topi (fun w8 ew8 => ?_)
    have hf := olet_at ew8 hf
    refine r_istore_n (lv' := [(3, .int w8), (0, .ref (G.1 37)), (2, .int v2), (4, .int v4)]) hC dX2_figureOnWay_48 rfl (by decide) rfl ?_
    refine r_iinc (v := (-1)) (lv' := [(4, .int (v4 + (-1))), (3, .int w8), (0, .ref (G.1 37)), (2, .int v2)]) hC dX2_figureOnWay_49 3 rfl (by decide) (by decide) rfl ?_
    refine r_goto (tgt := 36) hC dX2_figureOnWay_52 (by decide) ?_
    refine r_loc [2, 3, 1, 0] rfl ?_
    exact hrec w8 (v4 + (-1)) o hf hk
set_option maxHeartbeats 4000000 in
set_option maxRecDepth 100000 in
theorem t_X2_figureOnWay_L36 {l : Launch} {G : zG} {X : zX} {K : Option Value → zS → Prop} (hC : zC G X cX2_figureOnWay 5 RX2 (some .int)) {N : Nat} {u : zS} {v2 : Int32} : ∀ (n : Nat) (v3 : Int32) (v4 : Int32) (o : Int32), f_X2_figureOnWay_L36 N u v2 n v3 v4 = some o → zW dscC l rm_X2_figureOnWay G X K u 55 [(0, .ref (G.1 37)), (3, .int o)] [] → zW dscC l rm_X2_figureOnWay G X K u 36 [(0, .ref (G.1 37)), (2, .int v2), (3, .int v3), (4, .int v4)] [] := by
  intro n
  induction n with
  | zero => intro v3 v4 o hf; cases hf
  | succ n ih => intro v3 v4 o hf hk; exact t_X2_figureOnWay_L36_B hC (rec := f_X2_figureOnWay_L36 N u v2 n) ih v3 v4 o hf hk
set_option maxHeartbeats 4000000 in
set_option maxRecDepth 100000 in
theorem t_X2_figureOnWay {l : Launch} {G : zG} {X : zX} {K : Option Value → zS → Prop} (hC : zC G X cX2_figureOnWay 5 RX2 (some .int)) {N : Nat} {u : zS} {v1 : Int32} {v2 : Int32} (o : Int32) (hf : f_X2_figureOnWay N u v1 v2 = some o) (hk : K (some (.int o)) u) : zW dscC l rm_X2_figureOnWay G X K u 0 [(0, .ref (G.1 37)), (1, .int v1), (2, .int v2)] [] := by
  unfold f_X2_figureOnWay at hf
  refine r_aload_n hC dX2_figureOnWay_0 0 rfl ?_
  refine r_getr hC fd_RX2_9 dC_37 rfl dX2_figureOnWay_1 ?_
  refine r_iload_n hC dX2_figureOnWay_4 1 rfl ?_
  obtain ⟨g1, hf⟩ := og_in hf
  refine r_iald hC dC_38 g1 dX2_figureOnWay_5 ?_
  refine r_bipush (v := (-4)) hC dX2_figureOnWay_6 (by decide) ?_
  refine r_icmp_eq (tgt := 21) hC dX2_figureOnWay_8 (by decide) (fun c2 => ?_) (fun c2 => ?_)
  · have hf := ite_t c2 hf
    refine r_bipush (v := (-4)) hC dX2_figureOnWay_21 (by decide) ?_
    have hf := Option.some.inj hf
    subst hf
    exact r_iret hC dX2_figureOnWay_23 hk
  · have hf := ite_f c2 hf
    refine r_iload_n hC dX2_figureOnWay_11 2 rfl ?_
    refine r_aload_n hC dX2_figureOnWay_12 0 rfl ?_
    refine r_getr hC fd_RX2_9 dC_37 rfl dX2_figureOnWay_13 ?_
    refine r_iload_n hC dX2_figureOnWay_16 1 rfl ?_
    obtain ⟨g3, hf⟩ := og_in hf
    refine r_iald hC dC_38 g3 dX2_figureOnWay_17 ?_
    refine r_icmp_lt (tgt := 24) hC dX2_figureOnWay_18 (by decide) (fun c4 => ?_) (fun c4 => ?_)
    · have hf := ite_t c4 hf
      refine r_iload_n hC dX2_figureOnWay_24 1 rfl ?_
      refine r_istore_n (lv' := [(3, .int v1), (0, .ref (G.1 37)), (1, .int v1), (2, .int v2)]) hC dX2_figureOnWay_25 rfl (by decide) rfl ?_
      refine r_aload_n hC dX2_figureOnWay_26 1 rfl ?_
      refine r_getr hC fd_RX2_9 dC_37 rfl dX2_figureOnWay_27 ?_
      refine r_iload_n hC dX2_figureOnWay_30 2 rfl ?_
      obtain ⟨g5, hf⟩ := og_in hf
      refine r_iald hC dC_38 g5 dX2_figureOnWay_31 ?_
      refine r_iconst (v := 1) hC dX2_figureOnWay_32 (by decide) ?_
      refine r_isub hC dX2_figureOnWay_33 ?_
      refine r_istore (lv' := [(4, .int ((u.1 38 (Int32.toNatClampNeg v1)) - 1)), (3, .int v1), (0, .ref (G.1 37)), (1, .int v1), (2, .int v2)]) hC dX2_figureOnWay_34 (by decide) rfl ?_
      refine r_loc [2, 4, 1, 0] rfl ?_
      obtain ⟨q9, eq9, hf⟩ := ob_some hf
      refine t_X2_figureOnWay_L36 hC N v1 ((u.1 38 (Int32.toNatClampNeg v1)) - 1) q9 eq9 ?_
      refine r_aload_n hC dX2_figureOnWay_55 0 rfl ?_
      refine r_getr hC fd_RX2_18 dC_37 rfl dX2_figureOnWay_56 ?_
      refine r_iload_n hC dX2_figureOnWay_59 1 rfl ?_
      obtain ⟨g10, hf⟩ := og_in hf
      refine r_iald hC dC_40 g10 dX2_figureOnWay_60 ?_
      have hf := Option.some.inj hf
      subst hf
      exact r_iret hC dX2_figureOnWay_61 hk
    · have hf := ite_f c4 hf
      refine r_bipush (v := (-4)) hC dX2_figureOnWay_21 (by decide) ?_
      have hf := Option.some.inj hf
      subst hf
      exact r_iret hC dX2_figureOnWay_23 hk
set_option maxHeartbeats 4000000 in
set_option maxRecDepth 100000 in
theorem c_X2_figureOnWay {l : Launch} {G : zG} {N : Nat} {u : zS} {v1 : Int32} {v2 : Int32} {r : Int32} (hf : f_X2_figureOnWay N u v1 v2 = some r) : zM l dscC yX2_figureOnWay cX2_figureOnWay 5 (some .int) rm_X2_figureOnWay G [.ref (G.1 37), .int v1, .int v2] u (some (.int r)) u := zM.of (by decide) (Nat.le_of_ble_eq_true rfl) (fun X hC => t_X2_figureOnWay hC r hf ⟨rfl, rfl⟩)
set_option maxHeartbeats 4000000 in
set_option maxRecDepth 100000 in
theorem t_X5_span_L9_B {l : Launch} {G : zG} {X : zX} {K : Option Value → zS → Prop} (hC : zC G X cX5_span 3 RX5 (some .int)) {N : Nat} {v0 : Int32} {v1 : Int32} {u : zS} {rec : Int32 → Option ((Int32) ⊕ (Unit))} (hrec : ∀ (v2 : Int32) (o : (Int32) ⊕ (Unit)), rec v2 = some o → ((∀ q, o = .inl q → K (some (.int q)) u) ∧ (∀ q, o = .inr q → zW dscC l rm_X5_span G X K u 41 [(0, .int v0), (1, .int v1)] [])) → zW dscC l rm_X5_span G X K u 9 [(0, .int v0), (1, .int v1), (2, .int v2)] []) : ∀ (v2 : Int32) (o : (Int32) ⊕ (Unit)), f_X5_span_L9_B N v0 v1 rec v2 = some o → ((∀ q, o = .inl q → K (some (.int q)) u) ∧ (∀ q, o = .inr q → zW dscC l rm_X5_span G X K u 41 [(0, .int v0), (1, .int v1)] [])) → zW dscC l rm_X5_span G X K u 9 [(0, .int v0), (1, .int v1), (2, .int v2)] [] := by
  intro v2 o hf hk
  unfold f_X5_span_L9_B at hf
  refine r_iload_n hC dX5_span_9 2 rfl ?_
  refine r_bipush (v := 8) hC dX5_span_10 (by decide) ?_
  refine r_icmp_ge (tgt := 41) hC dX5_span_12 (by decide) (fun c2 => ?_) (fun c2 => ?_)
  · have hf := ite_t c2 hf
    have hf := Option.some.inj hf
    subst hf
    refine r_loc [0, 1] rfl ?_
    exact hk.2 _ rfl
  · have hf := ite_f c2 hf
    refine r_iload_n hC dX5_span_15 0 rfl ?_
    refine r_iload_n hC dX5_span_16 2 rfl ?_
    refine r_csi (As := [.int v0, .int v2]) (rest := []) hC c_X5_holds ys_X5_holds ml_RX5_66 ⟨by decide, by decide, rfl, rfl⟩ rfl rfl (Nat.le_of_ble_eq_true rfl) dX5_span_17 ?_
    refine r_if_eq (tgt := 35) hC dX5_span_20 (by decide) (fun c3 => ?_) (fun c3 => ?_)
    · have hf := ite_t c3 hf
      refine r_iinc (v := 1) (lv' := [(2, .int (v2 + 1)), (0, .int v0), (1, .int v1)]) hC dX5_span_35 2 rfl (by decide) (by decide) rfl ?_
      refine r_goto (tgt := 9) hC dX5_span_38 (by decide) ?_
      refine r_loc [1, 2, 0] rfl ?_
      exact hrec (v2 + 1) o hf hk
    · have hf := ite_f c3 hf
      refine r_iload_n hC dX5_span_23 0 rfl ?_
      refine r_iload_n hC dX5_span_24 2 rfl ?_
      refine r_iload_n hC dX5_span_25 1 rfl ?_
      refine r_iadd hC dX5_span_26 ?_
      refine r_csi (As := [.int v0, .int (v2 + v1)]) (rest := []) hC c_X5_holds ys_X5_holds ml_RX5_66 ⟨by decide, by decide, rfl, rfl⟩ rfl rfl (Nat.le_of_ble_eq_true rfl) dX5_span_27 ?_
      refine r_if_eq (tgt := 35) hC dX5_span_30 (by decide) (fun c4 => ?_) (fun c4 => ?_)
      · have hf := ite_t c4 hf
        refine r_iinc (v := 1) (lv' := [(2, .int (v2 + 1)), (0, .int v0), (1, .int v1)]) hC dX5_span_35 2 rfl (by decide) (by decide) rfl ?_
        refine r_goto (tgt := 9) hC dX5_span_38 (by decide) ?_
        refine r_loc [1, 2, 0] rfl ?_
        exact hrec (v2 + 1) o hf hk
      · have hf := ite_f c4 hf
        refine r_iload_n hC dX5_span_33 1 rfl ?_
        have hf := Option.some.inj hf
        subst hf
        exact r_iret hC dX5_span_34 (hk.1 _ rfl)
set_option maxHeartbeats 4000000 in
set_option maxRecDepth 100000 in
theorem t_X5_span_L9 {l : Launch} {G : zG} {X : zX} {K : Option Value → zS → Prop} (hC : zC G X cX5_span 3 RX5 (some .int)) {N : Nat} {v0 : Int32} {v1 : Int32} {u : zS} : ∀ (n : Nat) (v2 : Int32) (o : (Int32) ⊕ (Unit)), f_X5_span_L9 N v0 v1 n v2 = some o → ((∀ q, o = .inl q → K (some (.int q)) u) ∧ (∀ q, o = .inr q → zW dscC l rm_X5_span G X K u 41 [(0, .int v0), (1, .int v1)] [])) → zW dscC l rm_X5_span G X K u 9 [(0, .int v0), (1, .int v1), (2, .int v2)] [] := by
  intro n
  induction n with
  | zero => intro v2 o hf; cases hf
  | succ n ih => intro v2 o hf hk; exact t_X5_span_L9_B hC (rec := f_X5_span_L9 N v0 v1 n) ih v2 o hf hk
set_option maxHeartbeats 4000000 in
set_option maxRecDepth 100000 in
theorem t_X5_span_L2_B {l : Launch} {G : zG} {X : zX} {K : Option Value → zS → Prop} (hC : zC G X cX5_span 3 RX5 (some .int)) {N : Nat} {v0 : Int32} {u : zS} {rec : Int32 → Option ((Int32) ⊕ (Unit))} (hrec : ∀ (v1 : Int32) (o : (Int32) ⊕ (Unit)), rec v1 = some o → ((∀ q, o = .inl q → K (some (.int q)) u) ∧ (∀ q, o = .inr q → zW dscC l rm_X5_span G X K u 47 [] [])) → zW dscC l rm_X5_span G X K u 2 [(0, .int v0), (1, .int v1)] []) : ∀ (v1 : Int32) (o : (Int32) ⊕ (Unit)), f_X5_span_L2_B N v0 rec v1 = some o → ((∀ q, o = .inl q → K (some (.int q)) u) ∧ (∀ q, o = .inr q → zW dscC l rm_X5_span G X K u 47 [] [])) → zW dscC l rm_X5_span G X K u 2 [(0, .int v0), (1, .int v1)] [] := by
  intro v1 o hf hk
  unfold f_X5_span_L2_B at hf
  refine r_iload_n hC dX5_span_2 1 rfl ?_
  refine r_iconst (v := 4) hC dX5_span_3 (by decide) ?_
  refine r_icmp_gt (tgt := 47) hC dX5_span_4 (by decide) (fun c1 => ?_) (fun c1 => ?_)
  · have hf := ite_t c1 hf
    have hf := Option.some.inj hf
    subst hf
    refine r_loc [] rfl ?_
    exact hk.2 _ rfl
  · have hf := ite_f c1 hf
    refine r_iconst (v := 0) hC dX5_span_7 (by decide) ?_
    refine r_istore_n (lv' := [(2, .int 0), (0, .int v0), (1, .int v1)]) hC dX5_span_8 rfl (by decide) rfl ?_
    refine r_loc [1, 2, 0] rfl ?_
    rcases os_some hf with ⟨q6, eq5, hf⟩ | ⟨q5, eq5, hf⟩
    · have hf := Option.some.inj hf
      subst hf
      exact t_X5_span_L9 hC N 0 _ eq5 ⟨fun _ h9 => by cases h9; exact hk.1 _ rfl, fun _ h9 => by cases h9⟩
    refine t_X5_span_L9 hC N 0 _ eq5 ⟨fun _ h9 => (by cases h9), fun _ h9 => ?_⟩
    cases h9
    refine r_iinc (v := 1) (lv' := [(1, .int (v1 + 1)), (0, .int v0)]) hC dX5_span_41 1 rfl (by decide) (by decide) rfl ?_
    refine r_goto (tgt := 2) hC dX5_span_44 (by decide) ?_
    refine r_loc [1, 0] rfl ?_
    exact hrec (v1 + 1) o hf hk
set_option maxHeartbeats 4000000 in
set_option maxRecDepth 100000 in
theorem t_X5_span_L2 {l : Launch} {G : zG} {X : zX} {K : Option Value → zS → Prop} (hC : zC G X cX5_span 3 RX5 (some .int)) {N : Nat} {v0 : Int32} {u : zS} : ∀ (n : Nat) (v1 : Int32) (o : (Int32) ⊕ (Unit)), f_X5_span_L2 N v0 n v1 = some o → ((∀ q, o = .inl q → K (some (.int q)) u) ∧ (∀ q, o = .inr q → zW dscC l rm_X5_span G X K u 47 [] [])) → zW dscC l rm_X5_span G X K u 2 [(0, .int v0), (1, .int v1)] [] := by
  intro n
  induction n with
  | zero => intro v1 o hf; cases hf
  | succ n ih => intro v1 o hf hk; exact t_X5_span_L2_B hC (rec := f_X5_span_L2 N v0 n) ih v1 o hf hk
set_option maxHeartbeats 4000000 in
set_option maxRecDepth 100000 in
theorem t_X5_span {l : Launch} {G : zG} {X : zX} {K : Option Value → zS → Prop} (hC : zC G X cX5_span 3 RX5 (some .int)) {N : Nat} {u : zS} {v0 : Int32} (o : Int32) (hf : f_X5_span N v0 = some o) (hk : K (some (.int o)) u) : zW dscC l rm_X5_span G X K u 0 [(0, .int v0)] [] := by
  unfold f_X5_span at hf
  refine r_iconst (v := 1) hC dX5_span_0 (by decide) ?_
  refine r_istore_n (lv' := [(1, .int 1), (0, .int v0)]) hC dX5_span_1 rfl (by decide) rfl ?_
  refine r_loc [1, 0] rfl ?_
  rcases os_some hf with ⟨q8, eq7, hf⟩ | ⟨q7, eq7, hf⟩
  · have hf := Option.some.inj hf
    subst hf
    exact t_X5_span_L2 hC N 1 _ eq7 ⟨fun _ h9 => by cases h9; exact hk, fun _ h9 => by cases h9⟩
  refine t_X5_span_L2 hC N 1 _ eq7 ⟨fun _ h9 => (by cases h9), fun _ h9 => ?_⟩
  cases h9
  refine r_iconst (v := 0) hC dX5_span_47 (by decide) ?_
  have hf := Option.some.inj hf
  subst hf
  exact r_iret hC dX5_span_48 hk
set_option maxHeartbeats 4000000 in
set_option maxRecDepth 100000 in
theorem c_X5_span {l : Launch} {G : zG} {N : Nat} {u : zS} {v0 : Int32} {r : Int32} (hf : f_X5_span N v0 = some r) : zM l dscC yX5_span cX5_span 3 (some .int) rm_X5_span G [.int v0] u (some (.int r)) u := zM.of (by decide) (Nat.le_of_ble_eq_true rfl) (fun X hC => t_X5_span hC r hf ⟨rfl, rfl⟩)
set_option maxHeartbeats 4000000 in
set_option maxRecDepth 100000 in
theorem t_X2_widestPair_L9_B {l : Launch} {G : zG} {X : zX} {K : Option Value → zS → Prop} (hC : zC G X cX2_widestPair 3 RX2 (some .int)) {N : Nat} {u : zS} {rec : Int32 → Int32 → Option (Int32)} (hrec : ∀ (v1 : Int32) (v2 : Int32) (o : Int32), rec v1 v2 = some o → zW dscC l rm_X2_widestPair G X K u 46 [(1, .int o)] [] → zW dscC l rm_X2_widestPair G X K u 9 [(0, .ref (G.1 37)), (1, .int v1), (2, .int v2)] []) : ∀ (v1 : Int32) (v2 : Int32) (o : Int32), f_X2_widestPair_L9_B N u rec v1 v2 = some o → zW dscC l rm_X2_widestPair G X K u 46 [(1, .int o)] [] → zW dscC l rm_X2_widestPair G X K u 9 [(0, .ref (G.1 37)), (1, .int v1), (2, .int v2)] [] := by
  intro v1 v2 o hf hk
  unfold f_X2_widestPair_L9_B at hf
  refine r_iload_n hC dX2_widestPair_9 2 rfl ?_
  refine r_aload_n hC dX2_widestPair_10 0 rfl ?_
  refine r_geti hC fd_RX2_24 dC_37 rfl dX2_widestPair_11 ?_
  refine r_icmp_ge (tgt := 46) hC dX2_widestPair_14 (by decide) (fun c1 => ?_) (fun c1 => ?_)
  · have hf := ite_t c1 hf
    have hf := Option.some.inj hf
    subst hf
    refine r_loc [1] rfl ?_
    exact hk
  · have hf := ite_f c1 hf
    refine r_aload_n hC dX2_widestPair_17 0 rfl ?_
    refine r_getr hC fd_RX2_21 dC_37 rfl dX2_widestPair_18 ?_
    refine r_iload_n hC dX2_widestPair_21 2 rfl ?_
    obtain ⟨g2, hf⟩ := og_in hf
    refine r_iald hC dC_41 g2 dX2_widestPair_22 ?_
    obtain ⟨r3, er3, hf⟩ := ob_some hf
    refine r_csni (As := [.int (u.1 41 (Int32.toNatClampNeg v2))]) (rest := []) hC (c_X5_span er3) ys_X5_span mn_RX2_41 ⟨by decide, by decide, rfl, rfl⟩ rfl rfl (Nat.le_of_ble_eq_true rfl) dX2_widestPair_23 ?_
    refine r_iload_n hC dX2_widestPair_26 1 rfl ?_
    obtain ⟨r4, er4, hf⟩ := ob_some hf
    refine r_csni (As := [.int v1]) (rest := [.int r3]) hC (c_X5_span er4) ys_X5_span mn_RX2_41 ⟨by decide, by decide, rfl, rfl⟩ rfl rfl (Nat.le_of_ble_eq_true rfl) dX2_widestPair_27 ?_
    refine r_icmp_le (tgt := 40) hC dX2_widestPair_30 (by decide) (fun c5 => ?_) (fun c5 => ?_)
    · have hf := ite_t c5 hf
      refine r_iinc (v := 1) (lv' := [(2, .int (v2 + 1)), (0, .ref (G.1 37)), (1, .int v1)]) hC dX2_widestPair_40 2 rfl (by decide) (by decide) rfl ?_
      refine r_goto (tgt := 9) hC dX2_widestPair_43 (by decide) ?_
      refine r_loc [1, 2, 0] rfl ?_
      exact hrec v1 (v2 + 1) o hf hk
    · have hf := ite_f c5 hf
      refine r_aload_n hC dX2_widestPair_33 0 rfl ?_
      refine r_getr hC fd_RX2_21 dC_37 rfl dX2_widestPair_34 ?_
      refine r_iload_n hC dX2_widestPair_37 2 rfl ?_
      obtain ⟨g6, hf⟩ := og_in hf
      refine r_iald hC dC_41 g6 dX2_widestPair_38 ?_
      refine r_topi (fun w7 ew7 => ?_)
      have hf := olet_at ew7 hf
      refine r_istore_n (lv' := [(1, .int w7), (0, .ref (G.1 37)), (2, .int v2)]) hC dX2_widestPair_39 rfl (by decide) rfl ?_
      refine r_iinc (v := 1) (lv' := [(2, .int (v2 + 1)), (1, .int w7), (0, .ref (G.1 37))]) hC dX2_widestPair_40 2 rfl (by decide) (by decide) rfl ?_
      refine r_goto (tgt := 9) hC dX2_widestPair_43 (by decide) ?_
      refine r_loc [2, 1, 0] rfl ?_
      exact hrec w7 (v2 + 1) o hf hk
set_option maxHeartbeats 4000000 in
set_option maxRecDepth 100000 in
theorem t_X2_widestPair_L9 {l : Launch} {G : zG} {X : zX} {K : Option Value → zS → Prop} (hC : zC G X cX2_widestPair 3 RX2 (some .int)) {N : Nat} {u : zS} : ∀ (n : Nat) (v1 : Int32) (v2 : Int32) (o : Int32), f_X2_widestPair_L9 N u n v1 v2 = some o → zW dscC l rm_X2_widestPair G X K u 46 [(1, .int o)] [] → zW dscC l rm_X2_widestPair G X K u 9 [(0, .ref (G.1 37)), (1, .int v1), (2, .int v2)] [] := by
  intro n
  induction n with
  | zero => intro v1 v2 o hf; cases hf
  | succ n ih => intro v1 v2 o hf hk; exact t_X2_widestPair_L9_B hC (rec := f_X2_widestPair_L9 N u n) ih v1 v2 o hf hk
set_option maxHeartbeats 4000000 in
set_option maxRecDepth 100000 in
theorem t_X2_widestPair {l : Launch} {G : zG} {X : zX} {K : Option Value → zS → Prop} (hC : zC G X cX2_widestPair 3 RX2 (some .int)) {N : Nat} {u : zS} (o : Int32) (hf : f_X2_widestPair N u = some o) (hk : K (some (.int o)) u) : zW dscC l rm_X2_widestPair G X K u 0 [(0, .ref (G.1 37))] [] := by
  unfold f_X2_widestPair at hf
  refine r_aload_n hC dX2_widestPair_0 0 rfl ?_
  refine r_getr hC fd_RX2_21 dC_37 rfl dX2_widestPair_1 ?_
  refine r_iconst (v := 0) hC dX2_widestPair_4 (by decide) ?_
  refine r_ialdK (j := 0) hC dC_41 (inK (by decide)) dX2_widestPair_5 ?_
  refine r_istore_n (lv' := [(1, .int (u.1 41 0)), (0, .ref (G.1 37))]) hC dX2_widestPair_6 rfl (by decide) rfl ?_
  refine r_iconst (v := 1) hC dX2_widestPair_7 (by decide) ?_
  refine r_istore_n (lv' := [(2, .int 1), (1, .int (u.1 41 0)), (0, .ref (G.1 37))]) hC dX2_widestPair_8 rfl (by decide) rfl ?_
  refine r_loc [2, 1, 0] rfl ?_
  obtain ⟨q8, eq8, hf⟩ := ob_some hf
  refine t_X2_widestPair_L9 hC N (u.1 41 0) 1 q8 eq8 ?_
  refine r_iload_n hC dX2_widestPair_46 0 rfl ?_
  have hf := Option.some.inj hf
  subst hf
  exact r_iret hC dX2_widestPair_47 hk
set_option maxHeartbeats 4000000 in
set_option maxRecDepth 100000 in
theorem c_X2_widestPair {l : Launch} {G : zG} {N : Nat} {u : zS} {r : Int32} (hf : f_X2_widestPair N u = some r) : zM l dscC yX2_widestPair cX2_widestPair 3 (some .int) rm_X2_widestPair G [.ref (G.1 37)] u (some (.int r)) u := zM.of (by decide) (Nat.le_of_ble_eq_true rfl) (fun X hC => t_X2_widestPair hC r hf ⟨rfl, rfl⟩)
set_option maxHeartbeats 4000000 in
set_option maxRecDepth 100000 in
theorem t_X3_isThere {l : Launch} {G : zG} {X : zX} {K : Option Value → zS → Prop} (hC : zC G X cX3_isThere 2 RX3 (some .boolean)) {u : zS} {v1 : Int32} (o : Int32) (hf : f_X3_isThere u v1 = some o) (hk : K (some (.int o)) u) : zW dscC l rm_X3_isThere G X K u 0 [(0, .ref (G.1 33)), (1, .int v1)] [] := by
  unfold f_X3_isThere at hf
  refine r_aload_n hC dX3_isThere_0 0 rfl ?_
  refine r_getr hC fd_RX3_9 dC_33 rfl dX3_isThere_1 ?_
  refine r_iload_n hC dX3_isThere_4 1 rfl ?_
  obtain ⟨g1, hf⟩ := og_in hf
  refine r_iald hC dC_34 g1 dX3_isThere_5 ?_
  refine r_bipush (v := (-4)) hC dX3_isThere_6 (by decide) ?_
  refine r_icmp_eq (tgt := 15) hC dX3_isThere_8 (by decide) (fun c2 => ?_) (fun c2 => ?_)
  · have hf := ite_t c2 hf
    refine r_iconst (v := 0) hC dX3_isThere_15 (by decide) ?_
    have hf := Option.some.inj hf
    subst hf
    exact r_zret hC rfl dX3_isThere_16 hk
  · have hf := ite_f c2 hf
    refine r_iconst (v := 1) hC dX3_isThere_11 (by decide) ?_
    refine r_goto (tgt := 16) hC dX3_isThere_12 (by decide) ?_
    have hf := Option.some.inj hf
    subst hf
    exact r_zret hC rfl dX3_isThere_16 hk
set_option maxHeartbeats 4000000 in
set_option maxRecDepth 100000 in
theorem c_X3_isThere {l : Launch} {G : zG} {u : zS} {v1 : Int32} {r : Int32} (hf : f_X3_isThere u v1 = some r) : zM l dscC yX3_isThere cX3_isThere 2 (some .boolean) rm_X3_isThere G [.ref (G.1 33), .int v1] u (some (.int r)) u := zM.of (by decide) (Nat.le_of_ble_eq_true rfl) (fun X hC => t_X3_isThere hC r hf ⟨rfl, rfl⟩)
set_option maxHeartbeats 4000000 in
set_option maxRecDepth 100000 in
theorem t_X3_hasItems {l : Launch} {G : zG} {X : zX} {K : Option Value → zS → Prop} (hC : zC G X cX3_hasItems 4 RX3 (some .boolean)) {u : zS} {v1 : Int32} {v2 : Int32} {v3 : Int32} (o : Int32) (hf : f_X3_hasItems u v1 v2 v3 = some o) (hk : K (some (.int o)) u) : zW dscC l rm_X3_hasItems G X K u 0 [(0, .ref (G.1 33)), (1, .int v1), (2, .int v2), (3, .int v3)] [] := by
  unfold f_X3_hasItems at hf
  refine r_iload_n hC dX3_hasItems_0 3 rfl ?_
  refine r_if_lt (tgt := 34) hC dX3_hasItems_1 (by decide) (fun c1 => ?_) (fun c1 => ?_)
  · have hf := ite_t c1 hf
    refine r_iconst (v := 0) hC dX3_hasItems_34 (by decide) ?_
    have hf := Option.some.inj hf
    subst hf
    exact r_zret hC rfl dX3_hasItems_35 hk
  · have hf := ite_f c1 hf
    refine r_iload_n hC dX3_hasItems_4 2 rfl ?_
    refine r_if_lt (tgt := 34) hC dX3_hasItems_5 (by decide) (fun c2 => ?_) (fun c2 => ?_)
    · have hf := ite_t c2 hf
      refine r_iconst (v := 0) hC dX3_hasItems_34 (by decide) ?_
      have hf := Option.some.inj hf
      subst hf
      exact r_zret hC rfl dX3_hasItems_35 hk
    · have hf := ite_f c2 hf
      refine r_iload_n hC dX3_hasItems_8 2 rfl ?_
      refine r_aload_n hC dX3_hasItems_9 0 rfl ?_
      refine r_getr hC fd_RX3_15 dC_33 rfl dX3_hasItems_10 ?_
      refine r_iload_n hC dX3_hasItems_13 1 rfl ?_
      obtain ⟨g3, hf⟩ := og_in hf
      refine r_iald hC dC_35 g3 dX3_hasItems_14 ?_
      refine r_icmp_gt (tgt := 34) hC dX3_hasItems_15 (by decide) (fun c4 => ?_) (fun c4 => ?_)
      · have hf := ite_t c4 hf
        refine r_iconst (v := 0) hC dX3_hasItems_34 (by decide) ?_
        have hf := Option.some.inj hf
        subst hf
        exact r_zret hC rfl dX3_hasItems_35 hk
      · have hf := ite_f c4 hf
        refine r_iload_n hC dX3_hasItems_18 3 rfl ?_
        refine r_aload_n hC dX3_hasItems_19 0 rfl ?_
        refine r_getr hC fd_RX3_15 dC_33 rfl dX3_hasItems_20 ?_
        refine r_iload_n hC dX3_hasItems_23 1 rfl ?_
        obtain ⟨g5, hf⟩ := og_in hf
        refine r_iald hC dC_35 g5 dX3_hasItems_24 ?_
        refine r_iload_n hC dX3_hasItems_25 2 rfl ?_
        refine r_isub hC dX3_hasItems_26 ?_
        refine r_icmp_gt (tgt := 34) hC dX3_hasItems_27 (by decide) (fun c6 => ?_) (fun c6 => ?_)
        · have hf := ite_t c6 hf
          refine r_iconst (v := 0) hC dX3_hasItems_34 (by decide) ?_
          have hf := Option.some.inj hf
          subst hf
          exact r_zret hC rfl dX3_hasItems_35 hk
        · have hf := ite_f c6 hf
          refine r_iconst (v := 1) hC dX3_hasItems_30 (by decide) ?_
          refine r_goto (tgt := 35) hC dX3_hasItems_31 (by decide) ?_
          have hf := Option.some.inj hf
          subst hf
          exact r_zret hC rfl dX3_hasItems_35 hk
set_option maxHeartbeats 4000000 in
set_option maxRecDepth 100000 in
theorem c_X3_hasItems {l : Launch} {G : zG} {u : zS} {v1 : Int32} {v2 : Int32} {v3 : Int32} {r : Int32} (hf : f_X3_hasItems u v1 v2 v3 = some r) : zM l dscC yX3_hasItems cX3_hasItems 4 (some .boolean) rm_X3_hasItems G [.ref (G.1 33), .int v1, .int v2, .int v3] u (some (.int r)) u := zM.of (by decide) (Nat.le_of_ble_eq_true rfl) (fun X hC => t_X3_hasItems hC r hf ⟨rfl, rfl⟩)
set_option maxHeartbeats 4000000 in
set_option maxRecDepth 100000 in
theorem t_X3_refused {l : Launch} {G : zG} {X : zX} {K : Option Value → zS → Prop} (hC : zC G X cX3_refused 5 RX3 (some .int)) {u : zS} {v1 : Int32} {v2 : Int32} {v3 : Int32} {v4 : Int32} (o : Int32) (hf : f_X3_refused u v1 v2 v3 v4 = some o) (hk : K (some (.int o)) u) : zW dscC l rm_X3_refused G X K u 0 [(0, .ref (G.1 33)), (1, .int v1), (2, .int v2), (3, .int v3), (4, .int v4)] [] := by
  unfold f_X3_refused at hf
  refine r_aload_n hC dX3_refused_0 0 rfl ?_
  refine r_iload_n hC dX3_refused_1 1 rfl ?_
  obtain ⟨r1, er1, hf⟩ := ob_some hf
  refine r_cvi (As := [.int v1]) (rest := []) hC (c_X3_isThere er1) yv_X3_isThere ml_RX3_22 dC_33 ⟨by decide, by decide, rfl, rfl⟩ rfl rfl (Nat.le_of_ble_eq_true rfl) dX3_refused_2 ?_
  refine r_if_ne (tgt := 11) hC dX3_refused_5 (by decide) (fun c2 => ?_) (fun c2 => ?_)
  · have hf := ite_f c2 hf
    refine r_aload_n hC dX3_refused_11 0 rfl ?_
    refine r_getr hC fd_RX3_9 dC_33 rfl dX3_refused_12 ?_
    refine r_iload_n hC dX3_refused_15 1 rfl ?_
    obtain ⟨g3, hf⟩ := og_in hf
    refine r_iald hC dC_34 g3 dX3_refused_16 ?_
    refine r_iload_n hC dX3_refused_17 2 rfl ?_
    refine r_icmp_eq (tgt := 24) hC dX3_refused_18 (by decide) (fun c4 => ?_) (fun c4 => ?_)
    · have hf := ite_t c4 hf
      refine r_aload_n hC dX3_refused_24 0 rfl ?_
      refine r_iload_n hC dX3_refused_25 1 rfl ?_
      refine r_iload_n hC dX3_refused_26 3 rfl ?_
      refine r_iload hC dX3_refused_27 4 rfl ?_
      obtain ⟨r5, er5, hf⟩ := ob_some hf
      refine r_cvi (As := [.int v1, .int v3, .int v4]) (rest := []) hC (c_X3_hasItems er5) yv_X3_hasItems ml_RX3_26 dC_33 ⟨by decide, by decide, rfl, rfl⟩ rfl rfl (Nat.le_of_ble_eq_true rfl) dX3_refused_29 ?_
      refine r_if_eq (tgt := 39) hC dX3_refused_32 (by decide) (fun c6 => ?_) (fun c6 => ?_)
      · have hf := ite_t c6 hf
        refine r_bipush (v := (-13)) hC dX3_refused_39 (by decide) ?_
        have hf := Option.some.inj hf
        subst hf
        exact r_iret hC dX3_refused_41 hk
      · have hf := ite_f c6 hf
        refine r_iconst (v := 0) hC dX3_refused_35 (by decide) ?_
        refine r_goto (tgt := 41) hC dX3_refused_36 (by decide) ?_
        have hf := Option.some.inj hf
        subst hf
        exact r_iret hC dX3_refused_41 hk
    · have hf := ite_f c4 hf
      refine r_bipush (v := (-12)) hC dX3_refused_21 (by decide) ?_
      have hf := Option.some.inj hf
      subst hf
      exact r_iret hC dX3_refused_23 hk
  · have hf := ite_t c2 hf
    refine r_bipush (v := (-11)) hC dX3_refused_8 (by decide) ?_
    have hf := Option.some.inj hf
    subst hf
    exact r_iret hC dX3_refused_10 hk
set_option maxHeartbeats 4000000 in
set_option maxRecDepth 100000 in
theorem c_X3_refused {l : Launch} {G : zG} {u : zS} {v1 : Int32} {v2 : Int32} {v3 : Int32} {v4 : Int32} {r : Int32} (hf : f_X3_refused u v1 v2 v3 v4 = some r) : zM l dscC yX3_refused cX3_refused 5 (some .int) rm_X3_refused G [.ref (G.1 33), .int v1, .int v2, .int v3, .int v4] u (some (.int r)) u := zM.of (by decide) (Nat.le_of_ble_eq_true rfl) (fun X hC => t_X3_refused hC r hf ⟨rfl, rfl⟩)
