/-! a ring becomes like another; image, restore -/
theorem olet_P {α β : Type} {e : α} {k : α → β} {P : β → Prop} (h : ∀ y, y = e → P (k y)) : P (olet e k) := h e rfl
theorem cp_o {u : zS} {a b n c : Nat} (h : c ≠ b) : (cpI u a 0 b 0 n).1 c = u.1 c := by funext j; rw [cpI_1, if_neg h]
theorem cp_i {u : zS} {a b n j : Nat} (h : j < n) : (cpI u a 0 b 0 n).1 b j = u.1 a j := by rw [cpI_1, if_pos rfl, if_pos (by omega), Nat.zero_add, Nat.sub_zero]
def LF (b e : Nat) (u v : zS) : Prop := v.2 = u.2 ∧ (∀ c, ¬ (b ≤ c ∧ c ≤ b + 9) → v.1 c = u.1 c) ∧ (v.1 b 6 = u.1 e 6 ∧ v.1 b 7 = u.1 e 7 ∧ v.1 b 8 = u.1 e 8 ∧ v.1 b 9 = u.1 e 9 ∧ v.1 b 10 = u.1 e 10) ∧ (∀ j, j < 8 → v.1 (b + 1) j = u.1 (e + 1) j) ∧ (∀ j, j < 5 → v.1 (b + 2) j = u.1 (e + 2) j) ∧ (∀ j, j < 5 → v.1 (b + 3) j = u.1 (e + 3) j) ∧ (∀ j, j < 40 → v.1 (b + 4) j = u.1 (e + 4) j) ∧ (∀ j, j < 16 → v.1 (b + 5) j = u.1 (e + 5) j) ∧ (v.1 (b + 6) 3 = u.1 (e + 6) 3 ∧ v.1 (b + 6) 4 = u.1 (e + 6) 4) ∧ (∀ j, j < 64 → v.1 (b + 7) j = u.1 (e + 7) j) ∧ (∀ j, j < 8 → v.1 (b + 8) j = u.1 (e + 8) j) ∧ (∀ j, j < 8 → v.1 (b + 9) j = u.1 (e + 9) j)
theorem like_eq {b e : Nat} {u : zS} (hbe : b + 9 < e ∨ e + 9 < b) : LF b e u (f_X1_becomeLike b e u) := by
  unfold f_X1_becomeLike
  refine olet_P (fun u1 h1 => ?_)
  refine olet_P (fun u2 h2 => ?_)
  refine olet_P (fun u3 h3 => ?_)
  refine olet_P (fun u4 h4 => ?_)
  refine olet_P (fun u5 h5 => ?_)
  refine olet_P (fun u6 h6 => ?_)
  refine olet_P (fun u7 h7 => ?_)
  refine olet_P (fun u8 h8 => ?_)
  refine olet_P (fun u9 h9 => ?_)
  refine olet_P (fun u10 h10 => ?_)
  rw [ol]
  unfold f_X0_becomeLike
  refine olet_P (fun u11 h11 => ?_)
  refine olet_P (fun u12 h12 => ?_)
  refine olet_P (fun u13 h13 => ?_)
  refine olet_P (fun u14 h14 => ?_)
  refine olet_P (fun u15 h15 => ?_)
  have o1 : ∀ c, c ≠ (b + 1) → u1.1 c = u.1 c := fun c hc => by rw [h1]; exact cp_o hc
  have z1 : u1.2 = u.2 := by rw [h1]; rfl
  have i1 : ∀ j, j < 8 → u1.1 (b + 1) j = u.1 (e + 1) j := fun j hj => by rw [h1]; exact cp_i hj
  have o2 : ∀ c, c ≠ (b + 2) → u2.1 c = u1.1 c := fun c hc => by rw [h2]; exact cp_o hc
  have z2 : u2.2 = u1.2 := by rw [h2]; rfl
  have i2 : ∀ j, j < 5 → u2.1 (b + 2) j = u1.1 (e + 2) j := fun j hj => by rw [h2]; exact cp_i hj
  have o3 : ∀ c, c ≠ (b + 3) → u3.1 c = u2.1 c := fun c hc => by rw [h3]; exact cp_o hc
  have z3 : u3.2 = u2.2 := by rw [h3]; rfl
  have i3 : ∀ j, j < 5 → u3.1 (b + 3) j = u2.1 (e + 3) j := fun j hj => by rw [h3]; exact cp_i hj
  have o4 : ∀ c, c ≠ (b + 4) → u4.1 c = u3.1 c := fun c hc => by rw [h4]; exact cp_o hc
  have z4 : u4.2 = u3.2 := by rw [h4]; rfl
  have i4 : ∀ j, j < 40 → u4.1 (b + 4) j = u3.1 (e + 4) j := fun j hj => by rw [h4]; exact cp_i hj
  have o5 : ∀ c, c ≠ (b + 5) → u5.1 c = u4.1 c := fun c hc => by rw [h5]; exact cp_o hc
  have z5 : u5.2 = u4.2 := by rw [h5]; rfl
  have i5 : ∀ j, j < 16 → u5.1 (b + 5) j = u4.1 (e + 5) j := fun j hj => by rw [h5]; exact cp_i hj
  have o6 : ∀ c, c ≠ b → u6.1 c = u5.1 c := fun c hc => by rw [h6]; exact wI_ne hc
  have z6 : u6.2 = u5.2 := by rw [h6]; rfl
  have i6 : u6.1 b 6 = u5.1 e 6 := by rw [h6, wI_at, pk_us]
  have n6 : ∀ j, j ≠ 6 → u6.1 b j = u5.1 b j := fun j hj => by rw [h6, wI_at, pk_un hj]
  have o7 : ∀ c, c ≠ b → u7.1 c = u6.1 c := fun c hc => by rw [h7]; exact wI_ne hc
  have z7 : u7.2 = u6.2 := by rw [h7]; rfl
  have i7 : u7.1 b 7 = u6.1 e 7 := by rw [h7, wI_at, pk_us]
  have n7 : ∀ j, j ≠ 7 → u7.1 b j = u6.1 b j := fun j hj => by rw [h7, wI_at, pk_un hj]
  have o8 : ∀ c, c ≠ b → u8.1 c = u7.1 c := fun c hc => by rw [h8]; exact wI_ne hc
  have z8 : u8.2 = u7.2 := by rw [h8]; rfl
  have i8 : u8.1 b 8 = u7.1 e 8 := by rw [h8, wI_at, pk_us]
  have n8 : ∀ j, j ≠ 8 → u8.1 b j = u7.1 b j := fun j hj => by rw [h8, wI_at, pk_un hj]
  have o9 : ∀ c, c ≠ b → u9.1 c = u8.1 c := fun c hc => by rw [h9]; exact wI_ne hc
  have z9 : u9.2 = u8.2 := by rw [h9]; rfl
  have i9 : u9.1 b 9 = u8.1 e 9 := by rw [h9, wI_at, pk_us]
  have n9 : ∀ j, j ≠ 9 → u9.1 b j = u8.1 b j := fun j hj => by rw [h9, wI_at, pk_un hj]
  have o10 : ∀ c, c ≠ b → u10.1 c = u9.1 c := fun c hc => by rw [h10]; exact wI_ne hc
  have z10 : u10.2 = u9.2 := by rw [h10]; rfl
  have i10 : u10.1 b 10 = u9.1 e 10 := by rw [h10, wI_at, pk_us]
  have n10 : ∀ j, j ≠ 10 → u10.1 b j = u9.1 b j := fun j hj => by rw [h10, wI_at, pk_un hj]
  have o11 : ∀ c, c ≠ (b + 7) → u11.1 c = u10.1 c := fun c hc => by rw [h11]; exact cp_o hc
  have z11 : u11.2 = u10.2 := by rw [h11]; rfl
  have i11 : ∀ j, j < 64 → u11.1 (b + 7) j = u10.1 (e + 7) j := fun j hj => by rw [h11]; exact cp_i hj
  have o12 : ∀ c, c ≠ (b + 8) → u12.1 c = u11.1 c := fun c hc => by rw [h12]; exact cp_o hc
  have z12 : u12.2 = u11.2 := by rw [h12]; rfl
  have i12 : ∀ j, j < 8 → u12.1 (b + 8) j = u11.1 (e + 8) j := fun j hj => by rw [h12]; exact cp_i hj
  have o13 : ∀ c, c ≠ (b + 9) → u13.1 c = u12.1 c := fun c hc => by rw [h13]; exact cp_o hc
  have z13 : u13.2 = u12.2 := by rw [h13]; rfl
  have i13 : ∀ j, j < 8 → u13.1 (b + 9) j = u12.1 (e + 9) j := fun j hj => by rw [h13]; exact cp_i hj
  have o14 : ∀ c, c ≠ (b + 6) → u14.1 c = u13.1 c := fun c hc => by rw [h14]; exact wI_ne hc
  have z14 : u14.2 = u13.2 := by rw [h14]; rfl
  have i14 : u14.1 (b + 6) 3 = u13.1 (e + 6) 3 := by rw [h14, wI_at, pk_us]
  have n14 : ∀ j, j ≠ 3 → u14.1 (b + 6) j = u13.1 (b + 6) j := fun j hj => by rw [h14, wI_at, pk_un hj]
  have o15 : ∀ c, c ≠ (b + 6) → u15.1 c = u14.1 c := fun c hc => by rw [h15]; exact wI_ne hc
  have z15 : u15.2 = u14.2 := by rw [h15]; rfl
  have i15 : u15.1 (b + 6) 4 = u14.1 (e + 6) 4 := by rw [h15, wI_at, pk_us]
  have n15 : ∀ j, j ≠ 4 → u15.1 (b + 6) j = u14.1 (b + 6) j := fun j hj => by rw [h15, wI_at, pk_un hj]
  refine ⟨by rw [z15, z14, z13, z12, z11, z10, z9, z8, z7, z6, z5, z4, z3, z2, z1], fun c hc => by rw [o15 _ (by omega), o14 _ (by omega), o13 _ (by omega), o12 _ (by omega), o11 _ (by omega), o10 _ (by omega), o9 _ (by omega), o8 _ (by omega), o7 _ (by omega), o6 _ (by omega), o5 _ (by omega), o4 _ (by omega), o3 _ (by omega), o2 _ (by omega), o1 _ (by omega)], ⟨by rw [o15 _ (by omega), o14 _ (by omega), o13 _ (by omega), o12 _ (by omega), o11 _ (by omega), n10 _ (by omega), n9 _ (by omega), n8 _ (by omega), n7 _ (by omega), i6, o5 _ (by omega), o4 _ (by omega), o3 _ (by omega), o2 _ (by omega), o1 _ (by omega)], by rw [o15 _ (by omega), o14 _ (by omega), o13 _ (by omega), o12 _ (by omega), o11 _ (by omega), n10 _ (by omega), n9 _ (by omega), n8 _ (by omega), i7, o6 _ (by omega), o5 _ (by omega), o4 _ (by omega), o3 _ (by omega), o2 _ (by omega), o1 _ (by omega)], by rw [o15 _ (by omega), o14 _ (by omega), o13 _ (by omega), o12 _ (by omega), o11 _ (by omega), n10 _ (by omega), n9 _ (by omega), i8, o7 _ (by omega), o6 _ (by omega), o5 _ (by omega), o4 _ (by omega), o3 _ (by omega), o2 _ (by omega), o1 _ (by omega)], by rw [o15 _ (by omega), o14 _ (by omega), o13 _ (by omega), o12 _ (by omega), o11 _ (by omega), n10 _ (by omega), i9, o8 _ (by omega), o7 _ (by omega), o6 _ (by omega), o5 _ (by omega), o4 _ (by omega), o3 _ (by omega), o2 _ (by omega), o1 _ (by omega)], by rw [o15 _ (by omega), o14 _ (by omega), o13 _ (by omega), o12 _ (by omega), o11 _ (by omega), i10, o9 _ (by omega), o8 _ (by omega), o7 _ (by omega), o6 _ (by omega), o5 _ (by omega), o4 _ (by omega), o3 _ (by omega), o2 _ (by omega), o1 _ (by omega)]⟩, fun j hj => by rw [o15 _ (by omega), o14 _ (by omega), o13 _ (by omega), o12 _ (by omega), o11 _ (by omega), o10 _ (by omega), o9 _ (by omega), o8 _ (by omega), o7 _ (by omega), o6 _ (by omega), o5 _ (by omega), o4 _ (by omega), o3 _ (by omega), o2 _ (by omega), i1 j hj], fun j hj => by rw [o15 _ (by omega), o14 _ (by omega), o13 _ (by omega), o12 _ (by omega), o11 _ (by omega), o10 _ (by omega), o9 _ (by omega), o8 _ (by omega), o7 _ (by omega), o6 _ (by omega), o5 _ (by omega), o4 _ (by omega), o3 _ (by omega), i2 j hj, o1 _ (by omega)], fun j hj => by rw [o15 _ (by omega), o14 _ (by omega), o13 _ (by omega), o12 _ (by omega), o11 _ (by omega), o10 _ (by omega), o9 _ (by omega), o8 _ (by omega), o7 _ (by omega), o6 _ (by omega), o5 _ (by omega), o4 _ (by omega), i3 j hj, o2 _ (by omega), o1 _ (by omega)], fun j hj => by rw [o15 _ (by omega), o14 _ (by omega), o13 _ (by omega), o12 _ (by omega), o11 _ (by omega), o10 _ (by omega), o9 _ (by omega), o8 _ (by omega), o7 _ (by omega), o6 _ (by omega), o5 _ (by omega), i4 j hj, o3 _ (by omega), o2 _ (by omega), o1 _ (by omega)], fun j hj => by rw [o15 _ (by omega), o14 _ (by omega), o13 _ (by omega), o12 _ (by omega), o11 _ (by omega), o10 _ (by omega), o9 _ (by omega), o8 _ (by omega), o7 _ (by omega), o6 _ (by omega), i5 j hj, o4 _ (by omega), o3 _ (by omega), o2 _ (by omega), o1 _ (by omega)], ⟨by rw [n15 _ (by omega), i14, o13 _ (by omega), o12 _ (by omega), o11 _ (by omega), o10 _ (by omega), o9 _ (by omega), o8 _ (by omega), o7 _ (by omega), o6 _ (by omega), o5 _ (by omega), o4 _ (by omega), o3 _ (by omega), o2 _ (by omega), o1 _ (by omega)], by rw [i15, o14 _ (by omega), o13 _ (by omega), o12 _ (by omega), o11 _ (by omega), o10 _ (by omega), o9 _ (by omega), o8 _ (by omega), o7 _ (by omega), o6 _ (by omega), o5 _ (by omega), o4 _ (by omega), o3 _ (by omega), o2 _ (by omega), o1 _ (by omega)]⟩, fun j hj => by rw [o15 _ (by omega), o14 _ (by omega), o13 _ (by omega), o12 _ (by omega), i11 j hj, o10 _ (by omega), o9 _ (by omega), o8 _ (by omega), o7 _ (by omega), o6 _ (by omega), o5 _ (by omega), o4 _ (by omega), o3 _ (by omega), o2 _ (by omega), o1 _ (by omega)], fun j hj => by rw [o15 _ (by omega), o14 _ (by omega), o13 _ (by omega), i12 j hj, o11 _ (by omega), o10 _ (by omega), o9 _ (by omega), o8 _ (by omega), o7 _ (by omega), o6 _ (by omega), o5 _ (by omega), o4 _ (by omega), o3 _ (by omega), o2 _ (by omega), o1 _ (by omega)], fun j hj => by rw [o15 _ (by omega), o14 _ (by omega), i13 j hj, o12 _ (by omega), o11 _ (by omega), o10 _ (by omega), o9 _ (by omega), o8 _ (by omega), o7 _ (by omega), o6 _ (by omega), o5 _ (by omega), o4 _ (by omega), o3 _ (by omega), o2 _ (by omega), o1 _ (by omega)]⟩
theorem LF_cR {b e : Nat} {u v : zS} {W : Nat → Int32} {nA nF nT nB kn sl : Nat} (ho : okW W nA nF nT nB kn) (h : LF b e u v) (hc : cR e u W nA nF nT kn sl) : cR b v W nA nF nT kn sl := by
  obtain ⟨-, ⟨b1, b2, b3, b4, b5⟩, -⟩ := ho
  obtain ⟨f1, f2, ⟨g1, g2, g3, g4, g5⟩, i1, i2, i3, i4, i5, ⟨s3, s4⟩, i7, i8, i9⟩ := h
  obtain ⟨⟨d1, d2, d3, d4, d5, d6, d7, d8⟩, e2, e3, e4, e5⟩ := hc
  refine ⟨⟨by rw [g1]; exact d1, by rw [g2]; exact d2, by rw [g3]; exact d3, by rw [g4]; exact d4, by rw [g5]; exact d5, by rw [s4]; exact d6, by rw [s3]; exact d7, d8⟩, fun i hi => by rw [i1 i (by omega)]; exact e2 i hi, fun i hi => ?_, fun i hi => by rw [i5 i (by omega)]; exact e4 i hi, fun j hj => ?_⟩
  · rw [i2 i (by omega), i3 i (by omega)]
    exact ⟨(e3 i hi).1, (e3 i hi).2.1, fun p hp => by rw [i4 _ (by omega)]; exact (e3 i hi).2.2 p hp⟩
  · rw [i8 _ (by omega), i9 _ (by omega)]
    exact ⟨(e5 j hj).1, (e5 j hj).2.1, fun i hi => by rw [i7 _ (by omega)]; exact (e5 j hj).2.2 i hi⟩
theorem ok_image {N : Nat} {uc um : zS} (hN : 300 ≤ N) (h : RR uc um) : op_image N RR uc um := by
  unfold op_image f_X5_image f_X6_image
  obtain ⟨⟨nA, nF, nT, nB, kn, sl, hW, hc⟩, him, htp, hsh⟩ := h
  have hl := like_eq (b := 11) (e := 1) (u := uc) (by omega)
  generalize f_X1_becomeLike 11 1 uc = vc at hl
  obtain ⟨vm, q1, q2, q3, q4⟩ := bring_eq (N := N) (u := um) (a := 0) (d := 120) (n := 120) (by omega) (by omega) (by omega) (by omega)
  rw [show f_X6_bring N um 0 120 120 = some vm from q1, ob_s, ol, ol, ol]
  refine ⟨_, _, _, rfl, rfl, ?_⟩
  have o := hl.2.1
  have lo : ∀ k, k < 120 → (wI vm 0 1 1).1 1 k = um.1 1 k := fun k hk => by rw [wI_ne (by omega), q4, if_neg (by omega)]
  have hi : ∀ k, k < 120 → (wI vm 0 1 1).1 1 (120 + k) = um.1 1 k := fun k hk => by rw [wI_ne (by omega), q4, if_pos (by omega)]; exact congrArg (um.1 1) (by omega)
  refine ⟨⟨nA, nF, nT, nB, kn, sl, okW_congr lo hW, cR_congr hW lo (fun c g1 g2 => by rw [wI_ne (by omega), o c (by omega)]) hc⟩, Or.inr ⟨by rw [wI_at, pk_us], by rw [wI_at, pk_us], nA, nF, nT, nB, kn, sl, okW_congr hi hW, ?_⟩, tpR_congr htp (by rw [wI_ne (by omega), o 31 (by omega)]) (by rw [wI_ne (by omega), o 32 (by omega)]) (by rw [wI_at, pk_un (by omega), q3 0 (by omega)]) (by rw [wI_ne (by omega), q3 2 (by omega)]) (by rw [wI_ne (by omega), o 27 (by omega)]), shR_congr hsh (by rw [wI_ne (by omega), o 34 (by omega)]) (by rw [wI_ne (by omega), o 35 (by omega)]) (by rw [wI_2, hl.1]) (by rw [wI_ne (by omega), q3 4 (by omega)]) (by rw [wI_ne (by omega), q3 5 (by omega)]) (by rw [wI_2, q2])⟩
  exact cR_congr hW hi (fun c g1 g2 => wI_ne (by omega)) (LF_cR hW hl hc)
theorem ok_restore {N : Nat} {uc um : zS} (hN : 300 ≤ N) (h : RR uc um) : op_restore N RR uc um := by
  unfold op_restore f_X5_restore f_X6_restore
  obtain ⟨⟨nA, nF, nT, nB, kn, sl, hW, hc⟩, him, htp, hsh⟩ := id h
  rcases id him with ⟨h1, h2⟩ | ⟨h1, h2, mA, mF, mT, mB, mk, ms, h3, h4⟩
  · rw [h1, h2, if_pos rfl, if_pos rfl]; exact ⟨_, _, _, rfl, rfl, h⟩
  rw [h1, h2, if_neg (show ¬ (1 : Int32) = 0 by decide), if_neg (show ¬ (1 : Int32) = 0 by decide)]
  have hl := like_eq (b := 1) (e := 11) (u := uc) (by omega)
  generalize f_X1_becomeLike 1 11 uc = vc at hl
  obtain ⟨vm, q1, q2, q3, q4⟩ := bring_eq (N := N) (u := um) (a := 120) (d := 0) (n := 120) (by omega) (by omega) (by omega) (by omega)
  rw [show f_X6_bring N um 120 0 120 = some vm from q1, ob_s, ol]
  refine ⟨_, _, _, rfl, rfl, ?_⟩
  have o := hl.2.1
  have lo : ∀ k, k < 120 → vm.1 1 k = um.1 1 (120 + k) := fun k hk => by rw [q4, if_pos (by omega)]; exact congrArg (um.1 1) (by omega)
  have hi : ∀ k, 120 ≤ k → vm.1 1 k = um.1 1 k := fun k hk => by rw [q4, if_neg (by omega)]
  exact ⟨⟨mA, mF, mT, mB, mk, ms, okW_congr lo h3, cR_congr h3 lo (fun _ _ _ => rfl) (LF_cR h3 hl h4)⟩, imR_congr him (by rw [o 0 (by omega)]) (fun c g1 g2 => o c (by omega)) (by rw [q3 0 (by omega)]) (fun k g1 g2 => hi k g1), tpR_congr htp (by rw [o 31 (by omega)]) (o 32 (by omega)) (by rw [q3 0 (by omega)]) (q3 2 (by omega)) (by rw [o 27 (by omega)]), shR_congr hsh (o 34 (by omega)) (o 35 (by omega)) (by rw [hl.1]) (q3 4 (by omega)) (q3 5 (by omega)) (by rw [q2])⟩
