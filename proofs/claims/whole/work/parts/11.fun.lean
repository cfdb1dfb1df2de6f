abbrev rm_X0_forget : Room := { frames := 0, cells := 0, slots := 0, locals := 0 }
def f_X0_forget (b : Nat) (u : zS) : zS := (olet (wI u (b + 6) 4 0) fun u1 => u1)
abbrev rm_X0_becomeLike : Room := { frames := 1, cells := 0, slots := 0, locals := 18 }
def f_X0_becomeLike (b : Nat) (e : Nat) (u : zS) : zS := (olet (cpI u (e + 7) 0 (b + 7) 0 64) fun u1 => (olet (cpI u1 (e + 8) 0 (b + 8) 0 8) fun u2 => (olet (cpI u2 (e + 9) 0 (b + 9) 0 8) fun u3 => (olet (wI u3 (b + 6) 3 (u3.1 (e + 6) 3)) fun u4 => (olet (wI u4 (b + 6) 4 (u4.1 (e + 6) 4)) fun u5 => u5)))))
abbrev rm_X0_note : Room := { frames := 1, cells := 0, slots := 0, locals := 21 }
def f_X0_note (b : Nat) (u : zS) : Option (zS) := (og (cpB 0 ((u.1 (b + 6) 3) * 8) 8 8 64) <| (olet (cpI u (b + 1) 0 (b + 7) (Int32.toNatClampNeg ((u.1 (b + 6) 3) * 8)) 8) fun u2 => (og (inB (u2.1 (b + 6) 3) 8) <| (olet (wI u2 (b + 8) (Int32.toNatClampNeg (u2.1 (b + 6) 3)) (u2.1 b 9)) fun u4 => (og (inB (u4.1 (b + 6) 3) 8) <| (olet (wI u4 (b + 9) (Int32.toNatClampNeg (u4.1 (b + 6) 3)) (u4.1 b 10)) fun u6 => (olet (wI u6 (b + 6) 3 (((u6.1 (b + 6) 3) + 1) - ((u6.1 (b + 6) 3) + 1) / 8 * 8)) fun u7 => (olet (wI u7 (b + 6) 4 (if 8 < ((u7.1 (b + 6) 4) + 1) then 8 else ((u7.1 (b + 6) 4) + 1))) fun u8 => some u8))))))))
abbrev rm_X0_bringBack : Room := { frames := 1, cells := 0, slots := 0, locals := 18 }
def f_X0_bringBack (b : Nat) (u : zS) : Option (zS) := (olet (wI u (b + 6) 3 ((((u.1 (b + 6) 3) + 8) - 1) - (((u.1 (b + 6) 3) + 8) - 1) / 8 * 8)) fun u1 => (olet (wI u1 (b + 6) 4 ((u1.1 (b + 6) 4) - 1)) fun u2 => (og (cpB ((u2.1 (b + 6) 3) * 8) 0 8 64 8) <| (olet (cpI u2 (b + 7) (Int32.toNatClampNeg ((u2.1 (b + 6) 3) * 8)) (b + 1) 0 8) fun u4 => (og (inB (u4.1 (b + 6) 3) 8) <| (olet (wI u4 b 9 (u4.1 (b + 8) (Int32.toNatClampNeg (u4.1 (b + 6) 3)))) fun u6 => (og (inB (u6.1 (b + 6) 3) 8) <| (olet (wI u6 b 10 (u6.1 (b + 9) (Int32.toNatClampNeg (u6.1 (b + 6) 3)))) fun u8 => some u8))))))))
abbrev rm_X1_clear : Room := { frames := 1, cells := 0, slots := 0, locals := 20 }
def f_X1_clear (b : Nat) (u : zS) : zS := (olet (wI u b 6 0) fun u1 => (olet (wI u1 b 7 0) fun u2 => (olet (wI u2 b 8 0) fun u3 => (olet (wI u3 b 9 0) fun u4 => (olet (f_X0_forget b u4) fun r5 => r5)))))
abbrev rm_X1_becomeLike : Room := { frames := 2, cells := 0, slots := 0, locals := 39 }
def f_X1_becomeLike (b : Nat) (e : Nat) (u : zS) : zS := (olet (cpI u (e + 1) 0 (b + 1) 0 8) fun u1 => (olet (cpI u1 (e + 2) 0 (b + 2) 0 5) fun u2 => (olet (cpI u2 (e + 3) 0 (b + 3) 0 5) fun u3 => (olet (cpI u3 (e + 4) 0 (b + 4) 0 40) fun u4 => (olet (cpI u4 (e + 5) 0 (b + 5) 0 16) fun u5 => (olet (wI u5 b 6 (u5.1 e 6)) fun u6 => (olet (wI u6 b 7 (u6.1 e 7)) fun u7 => (olet (wI u7 b 8 (u7.1 e 8)) fun u8 => (olet (wI u8 b 9 (u8.1 e 9)) fun u9 => (olet (wI u9 b 10 (u9.1 e 10)) fun u10 => (olet (f_X0_becomeLike b e u10) fun r11 => r11)))))))))))
abbrev rm_X1_hasAngel : Room := { frames := 0, cells := 0, slots := 0, locals := 0 }
def f_X1_hasAngel (b : Nat) (u : zS) (v1 : Int32) : Int32 := (if v1 < 0 then 0 else (if (u.1 b 6) ≤ v1 then 0 else 1))
abbrev rm_X1_hasFigure : Room := { frames := 0, cells := 0, slots := 0, locals := 0 }
def f_X1_hasFigure (b : Nat) (u : zS) (v1 : Int32) : Int32 := (if v1 < 0 then 0 else (if (u.1 b 7) ≤ v1 then 0 else 1))
abbrev rm_X1_addAngel : Room := { frames := 0, cells := 0, slots := 0, locals := 0 }
def f_X1_addAngel (b : Nat) (u : zS) (v1 : Int32) : Option (Int32 × zS) := (if (u.1 b 6) < 8 then (og (inB (u.1 b 6) 8) <| (olet (wI u (b + 1) (Int32.toNatClampNeg (u.1 b 6)) v1) fun u3 => (olet (wI u3 b 6 ((u3.1 b 6) + 1)) fun u4 => some (((u4.1 b 6) - 1), u4)))) else some ((-3), u))
abbrev rm_X5_leftBy8 : Room := { frames := 0, cells := 0, slots := 0, locals := 0 }
def f_X5_leftBy8 (v0 : Int32) : Int32 := (v0 &&& 7)
abbrev rm_X5_lead : Room := { frames := 1, cells := 0, slots := 0, locals := 20 }
def f_X5_lead (v0 : Int32) (v1 : Int32) (v2 : Int32) : Int32 := (olet (f_X5_leftBy8 (v2 + v1)) fun w1 => (olet (f_X5_leftBy8 (w1 + v1)) fun w2 => (olet (f_X5_leftBy8 ((8 - v2) + v1)) fun w3 => (if v0 = 0 then w1 else (if v0 = 1 then w2 else (if v0 = 2 then w3 else (if v0 = 3 then (if (v2 - v2 / 2 * 2) = 0 then w2 else v2) else (if (w3 - w3 / 4 * 4) = 0 then (4 - w3) else w3))))))))
abbrev rm_X1_tell : Room := { frames := 2, cells := 0, slots := 0, locals := 45 }
def f_X1_tell_L17_B (N : Nat) (b : Nat) (v1 : Int32) (v2 : Int32) (v3 : Int32) (rec : zS → Int32 → Option (zS)) (u : zS) (v4 : Int32) : Option (zS) := (if 8 ≤ v4 then some u else (og (inB ((v1 * 8) + v4) 40) <| (olet (wI u (b + 4) (Int32.toNatClampNeg ((v1 * 8) + v4)) (f_X5_lead v2 v3 v4)) fun u7 => rec u7 (v4 + 1))))
def f_X1_tell_L17 (N : Nat) (b : Nat) (v1 : Int32) (v2 : Int32) (v3 : Int32) : Nat → zS → Int32 → Option (zS)
  | 0, _, _ => none
  | n + 1, u, v4 => f_X1_tell_L17_B N b v1 v2 v3 (f_X1_tell_L17 N b v1 v2 v3 n) u v4
def f_X1_tell (N : Nat) (b : Nat) (u : zS) (v1 : Int32) (v2 : Int32) (v3 : Int32) : Option (zS) := (og (inB v1 5) <| (olet (wI u (b + 2) (Int32.toNatClampNeg v1) v2) fun u2 => (og (inB v1 5) <| (olet (wI u2 (b + 3) (Int32.toNatClampNeg v1) v3) fun u4 => (ob (f_X1_tell_L17 N b v1 v2 v3 N u4 0) fun q8 => some q8)))))
abbrev rm_X1_addFigure : Room := { frames := 3, cells := 0, slots := 0, locals := 69 }
def f_X1_addFigure (N : Nat) (b : Nat) (u : zS) (v1 : Int32) (v2 : Int32) : Option (Int32 × zS) := (if (u.1 b 7) < 5 then (ob (f_X1_tell N b u (u.1 b 7) v1 v2) fun r2 => (olet (wI r2 b 7 ((r2.1 b 7) + 1)) fun u3 => some (((u3.1 b 7) - 1), u3))) else some ((-3), u))
abbrev rm_X1_addToTune : Room := { frames := 0, cells := 0, slots := 0, locals := 0 }
def f_X1_addToTune (b : Nat) (u : zS) (v1 : Int32) : Option (Int32 × zS) := (if (u.1 b 8) < 16 then (og (inB (u.1 b 8) 16) <| (olet (wI u (b + 5) (Int32.toNatClampNeg (u.1 b 8)) v1) fun u3 => (olet (wI u3 b 8 ((u3.1 b 8) + 1)) fun u4 => some ((u4.1 b 8), u4)))) else some ((-3), u))
abbrev rm_X5_within : Room := { frames := 0, cells := 0, slots := 0, locals := 0 }
def f_X5_within (v0 : Int32) (v1 : Int32) (v2 : Int32) : Int32 := (if v0 < v1 then 0 else (if v2 < v0 then 0 else 1))
abbrev rm_X5_isPlace : Room := { frames := 1, cells := 0, slots := 0, locals := 22 }
def f_X5_isPlace (v0 : Int32) : Int32 := (f_X5_within v0 0 7)
abbrev rm_X5_bitOf : Room := { frames := 2, cells := 0, slots := 0, locals := 42 }
def f_X5_bitOf (v0 : Int32) : Int32 := (if (f_X5_isPlace v0) = 0 then 0 else (1 <<< (v0 &&& (31 : Int32))))
abbrev rm_X1_standing : Room := { frames := 3, cells := 0, slots := 0, locals := 62 }
def f_X1_standing_L4_B (N : Nat) (b : Nat) (u : zS) (rec : Int32 → Int32 → Option (Int32)) (v1 : Int32) (v2 : Int32) : Option (Int32) := (if (u.1 b 6) ≤ v2 then some v1 else (og (inB v2 8) <| (olet (v1 ||| (f_X5_bitOf (u.1 (b + 1) (Int32.toNatClampNeg v2)))) fun w3 => rec w3 (v2 + 1))))
def f_X1_standing_L4 (N : Nat) (b : Nat) (u : zS) : Nat → Int32 → Int32 → Option (Int32)
  | 0, _, _ => none
  | n + 1, v1, v2 => f_X1_standing_L4_B N b u (f_X1_standing_L4 N b u n) v1 v2
def f_X1_standing (N : Nat) (b : Nat) (u : zS) : Option (Int32) := (ob (f_X1_standing_L4 N b u N 0 0) fun q4 => some q4)
abbrev rm_X1_goneOnes : Room := { frames := 0, cells := 0, slots := 0, locals := 0 }
def f_X1_goneOnes_L4_B (N : Nat) (b : Nat) (u : zS) (rec : Int32 → Int32 → Option (Int32)) (v1 : Int32) (v2 : Int32) : Option (Int32) := (if (u.1 b 6) ≤ v2 then some v1 else (og (inB v2 8) <| (if (u.1 (b + 1) (Int32.toNatClampNeg v2)) = (-4) then (olet (v1 ||| (1 <<< (v2 &&& (31 : Int32)))) fun w4 => rec w4 (v2 + 1)) else rec v1 (v2 + 1))))
def f_X1_goneOnes_L4 (N : Nat) (b : Nat) (u : zS) : Nat → Int32 → Int32 → Option (Int32)
  | 0, _, _ => none
  | n + 1, v1, v2 => f_X1_goneOnes_L4_B N b u (f_X1_goneOnes_L4 N b u n) v1 v2
def f_X1_goneOnes (N : Nat) (b : Nat) (u : zS) : Option (Int32) := (ob (f_X1_goneOnes_L4 N b u N 0 0) fun q5 => some q5)
abbrev rm_X1_ledBy : Room := { frames := 0, cells := 0, slots := 0, locals := 0 }
def f_X1_ledBy (b : Nat) (u : zS) (v1 : Int32) (v2 : Int32) : Option (Int32) := (og (inB ((v1 * 8) + v2) 40) <| some (u.1 (b + 4) (Int32.toNatClampNeg ((v1 * 8) + v2))))
abbrev rm_X5_holds : Room := { frames := 1, cells := 0, slots := 0, locals := 20 }
def f_X5_holds (v0 : Int32) (v1 : Int32) : Int32 := (if ((v0 >>> ((f_X5_leftBy8 v1) &&& (31 : Int32))) &&& 1) = 0 then 0 else 1)
abbrev rm_X1_setLedBy : Room := { frames := 3, cells := 0, slots := 0, locals := 62 }
def f_X1_setLedBy_L5_B (N : Nat) (b : Nat) (u : zS) (v1 : Int32) (v2 : Int32) (rec : Int32 → Int32 → Option (Int32)) (v3 : Int32) (v4 : Int32) : Option (Int32) := (if 8 ≤ v4 then some v3 else (if (f_X5_holds v2 v4) = 0 then rec v3 (v4 + 1) else (ob (f_X1_ledBy b u v1 v4) fun r3 => (olet (v3 ||| (f_X5_bitOf r3)) fun w4 => rec w4 (v4 + 1)))))
def f_X1_setLedBy_L5 (N : Nat) (b : Nat) (u : zS) (v1 : Int32) (v2 : Int32) : Nat → Int32 → Int32 → Option (Int32)
  | 0, _, _ => none
  | n + 1, v3, v4 => f_X1_setLedBy_L5_B N b u v1 v2 (f_X1_setLedBy_L5 N b u v1 v2 n) v3 v4
def f_X1_setLedBy (N : Nat) (b : Nat) (u : zS) (v1 : Int32) (v2 : Int32) : Option (Int32) := (ob (f_X1_setLedBy_L5 N b u v1 v2 N 0 0) fun q5 => some q5)
abbrev rm_X1_turnsTillBack : Room := { frames := 1, cells := 0, slots := 0, locals := 22 }
def f_X1_turnsTillBack_L10_B (N : Nat) (b : Nat) (u : zS) (v1 : Int32) (v2 : Int32) (rec : Int32 → Int32 → Option (Int32)) (v3 : Int32) (v4 : Int32) : Option (Int32) := (if 8 ≤ v3 then some v3 else (if v4 = v2 then some v3 else (ob (f_X1_ledBy b u v1 v4) fun r4 => rec (v3 + 1) r4)))
def f_X1_turnsTillBack_L10 (N : Nat) (b : Nat) (u : zS) (v1 : Int32) (v2 : Int32) : Nat → Int32 → Int32 → Option (Int32)
  | 0, _, _ => none
  | n + 1, v3, v4 => f_X1_turnsTillBack_L10_B N b u v1 v2 (f_X1_turnsTillBack_L10 N b u v1 v2 n) v3 v4
def f_X1_turnsTillBack (N : Nat) (b : Nat) (u : zS) (v1 : Int32) (v2 : Int32) : Option (Int32) := (ob (f_X1_ledBy b u v1 v2) fun r1 => (ob (f_X1_turnsTillBack_L10 N b u v1 v2 N 1 r1) fun q5 => some q5))
abbrev rm_X5_greatestCommon : Room := { frames := 0, cells := 0, slots := 0, locals := 0 }
def f_X5_greatestCommon_L7_B (N : Nat) (rec : Int32 → Int32 → Int32 → Option (Int32)) (v2 : Int32) (v3 : Int32) (v4 : Int32) : Option (Int32) := (if 64 ≤ v4 then some v2 else (if v3 = 0 then some v2 else (og (neB v3) <| (olet (v2 - v2 / v3 * v3) fun w4 => rec v3 w4 (v4 + 1)))))
def f_X5_greatestCommon_L7 (N : Nat) : Nat → Int32 → Int32 → Int32 → Option (Int32)
  | 0, _, _, _ => none
  | n + 1, v2, v3, v4 => f_X5_greatestCommon_L7_B N (f_X5_greatestCommon_L7 N n) v2 v3 v4
def f_X5_greatestCommon (N : Nat) (v0 : Int32) (v1 : Int32) : Option (Int32) := (ob (f_X5_greatestCommon_L7 N N v0 v1 0) fun q5 => some q5)
abbrev rm_X1_orderOf : Room := { frames := 2, cells := 0, slots := 0, locals := 46 }
def f_X1_orderOf_L4_B (N : Nat) (b : Nat) (u : zS) (v1 : Int32) (rec : Int32 → Int32 → Option (Int32)) (v2 : Int32) (v3 : Int32) : Option (Int32) := (if 8 ≤ v3 then some v2 else (ob (f_X1_turnsTillBack N b u v1 v3) fun r2 => (ob (f_X5_greatestCommon N v2 r2) fun r3 => (if r3 ≤ 0 then rec v2 (v3 + 1) else (og (neB r3) <| (olet ((v2 / r3) * r2) fun w6 => rec w6 (v3 + 1)))))))
def f_X1_orderOf_L4 (N : Nat) (b : Nat) (u : zS) (v1 : Int32) : Nat → Int32 → Int32 → Option (Int32)
  | 0, _, _ => none
  | n + 1, v2, v3 => f_X1_orderOf_L4_B N b u v1 (f_X1_orderOf_L4 N b u v1 n) v2 v3
def f_X1_orderOf (N : Nat) (b : Nat) (u : zS) (v1 : Int32) : Option (Int32) := (ob (f_X1_orderOf_L4 N b u v1 N 1 0) fun q7 => some q7)
abbrev rm_X1_keptBy : Room := { frames := 3, cells := 0, slots := 0, locals := 62 }
def f_X1_keptBy_L4_B (N : Nat) (b : Nat) (u : zS) (v1 : Int32) (rec : Int32 → Int32 → Option (Int32)) (v2 : Int32) (v3 : Int32) : Option (Int32) := (if 8 ≤ v3 then some v2 else (ob (f_X1_ledBy b u v1 v3) fun r2 => (if r2 = v3 then (olet (v2 ||| (f_X5_bitOf v3)) fun w4 => rec w4 (v3 + 1)) else rec v2 (v3 + 1))))
def f_X1_keptBy_L4 (N : Nat) (b : Nat) (u : zS) (v1 : Int32) : Nat → Int32 → Int32 → Option (Int32)
  | 0, _, _ => none
  | n + 1, v2, v3 => f_X1_keptBy_L4_B N b u v1 (f_X1_keptBy_L4 N b u v1 n) v2 v3
def f_X1_keptBy (N : Nat) (b : Nat) (u : zS) (v1 : Int32) : Option (Int32) := (ob (f_X1_keptBy_L4 N b u v1 N 0 0) fun q5 => some q5)
abbrev rm_X1_leadAlike : Room := { frames := 1, cells := 0, slots := 0, locals := 22 }
def f_X1_leadAlike_L2_B (N : Nat) (b : Nat) (u : zS) (v1 : Int32) (v2 : Int32) (rec : Int32 → Option ((Int32) ⊕ (Unit))) (v3 : Int32) : Option ((Int32) ⊕ (Unit)) := (if 8 ≤ v3 then some (.inr ()) else (ob (f_X1_ledBy b u v1 v3) fun r2 => (ob (f_X1_ledBy b u v2 v3) fun r3 => (if r2 = r3 then rec (v3 + 1) else some (.inl 0)))))
def f_X1_leadAlike_L2 (N : Nat) (b : Nat) (u : zS) (v1 : Int32) (v2 : Int32) : Nat → Int32 → Option ((Int32) ⊕ (Unit))
  | 0, _ => none
  | n + 1, v3 => f_X1_leadAlike_L2_B N b u v1 v2 (f_X1_leadAlike_L2 N b u v1 v2 n) v3
def f_X1_leadAlike (N : Nat) (b : Nat) (u : zS) (v1 : Int32) (v2 : Int32) : Option (Int32) := (os (f_X1_leadAlike_L2 N b u v1 v2 N 0) (fun q6 => some q6) fun q5 => some 1)
abbrev rm_X1_leastLike : Room := { frames := 2, cells := 0, slots := 0, locals := 45 }
def f_X1_leastLike_L2_B (N : Nat) (b : Nat) (u : zS) (v1 : Int32) (rec : Int32 → Option ((Int32) ⊕ (Unit))) (v2 : Int32) : Option ((Int32) ⊕ (Unit)) := (if v1 ≤ v2 then some (.inr ()) else (ob (f_X1_leadAlike N b u v2 v1) fun r2 => (if r2 = 0 then rec (v2 + 1) else some (.inl v2))))
def f_X1_leastLike_L2 (N : Nat) (b : Nat) (u : zS) (v1 : Int32) : Nat → Int32 → Option ((Int32) ⊕ (Unit))
  | 0, _ => none
  | n + 1, v2 => f_X1_leastLike_L2_B N b u v1 (f_X1_leastLike_L2 N b u v1 n) v2
def f_X1_leastLike (N : Nat) (b : Nat) (u : zS) (v1 : Int32) : Option (Int32) := (os (f_X1_leastLike_L2 N b u v1 N 0) (fun q5 => some q5) fun q4 => some v1)
abbrev rm_X1_figureOfBeat : Room := { frames := 0, cells := 0, slots := 0, locals := 0 }
def f_X1_figureOfBeat (b : Nat) (u : zS) (v1 : Int32) : Option (Int32) := (if 0 < (u.1 b 8) then (og (neB (u.1 b 8)) <| (og (inB (v1 - v1 / (u.1 b 8) * (u.1 b 8)) 16) <| some (u.1 (b + 5) (Int32.toNatClampNeg (v1 - v1 / (u.1 b 8) * (u.1 b 8)))))) else some (-4))
abbrev rm_X1_goesOn : Room := { frames := 1, cells := 0, slots := 0, locals := 22 }
def f_X1_goesOn (b : Nat) (u : zS) (v1 : Int32) (v2 : Int32) : Option (Int32) := (if (u.1 b 8) ≤ 0 then some v1 else (if v1 = (-4) then some v1 else (og (neB (u.1 b 8)) <| (og (inB (v2 - v2 / (u.1 b 8) * (u.1 b 8)) 16) <| (ob (f_X1_ledBy b u (u.1 (b + 5) (Int32.toNatClampNeg (v2 - v2 / (u.1 b 8) * (u.1 b 8)))) v1) fun r5 => some r5)))))
abbrev rm_X1_dance : Room := { frames := 2, cells := 0, slots := 0, locals := 44 }
def f_X1_dance_L2_B (N : Nat) (b : Nat) (rec : zS → Int32 → Option (zS)) (u : zS) (v1 : Int32) : Option (zS) := (if (u.1 b 6) ≤ v1 then some u else (og (inB v1 8) <| (ob (f_X1_goesOn b u (u.1 (b + 1) (Int32.toNatClampNeg v1)) (u.1 b 9)) fun r3 => (og (inB v1 8) <| (olet (wI u (b + 1) (Int32.toNatClampNeg v1) r3) fun u5 => rec u5 (v1 + 1))))))
def f_X1_dance_L2 (N : Nat) (b : Nat) : Nat → zS → Int32 → Option (zS)
  | 0, _, _ => none
  | n + 1, u, v1 => f_X1_dance_L2_B N b (f_X1_dance_L2 N b n) u v1
def f_X1_dance (N : Nat) (b : Nat) (u : zS) : Option (zS) := (ob (f_X1_dance_L2 N b N u 0) fun q6 => (olet (wI q6 b 9 ((q6.1 b 9) + 1)) fun u7 => some u7))
abbrev rm_X1_blow : Room := { frames := 1, cells := 0, slots := 0, locals := 20 }
def f_X1_blow_L2_B (N : Nat) (b : Nat) (v1 : Int32) (rec : zS → Int32 → Option (zS)) (u : zS) (v2 : Int32) : Option (zS) := (if (u.1 b 6) ≤ v2 then some u else (og (inB v2 8) <| (if (u.1 (b + 1) (Int32.toNatClampNeg v2)) = (-4) then rec u (v2 + 1) else (og (inB v2 8) <| (og (inB v2 8) <| (olet (wI u (b + 1) (Int32.toNatClampNeg v2) (f_X5_leftBy8 ((u.1 (b + 1) (Int32.toNatClampNeg v2)) + v1))) fun u6 => rec u6 (v2 + 1)))))))
def f_X1_blow_L2 (N : Nat) (b : Nat) (v1 : Int32) : Nat → zS → Int32 → Option (zS)
  | 0, _, _ => none
  | n + 1, u, v2 => f_X1_blow_L2_B N b v1 (f_X1_blow_L2 N b v1 n) u v2
def f_X1_blow (N : Nat) (b : Nat) (u : zS) (v1 : Int32) : Option (zS) := (ob (f_X1_blow_L2 N b v1 N u 0) fun q7 => some q7)
abbrev rm_X1_drawAndBlow : Room := { frames := 2, cells := 0, slots := 0, locals := 42 }
def f_X1_drawAndBlow (N : Nat) (b : Nat) (u : zS) : Option (zS) := (olet (wI u b 10 (Int64.toInt32 ((((Int32.toInt64 (u.1 b 10)) * 1103515245) + 12345) &&& 2147483647))) fun u1 => (if (((u1.1 b 10) / 65536) - ((u1.1 b 10) / 65536) / 4 * 4) = 0 then (ob (f_X1_blow N b u1 (1 + (((u1.1 b 10) / 128) - ((u1.1 b 10) / 128) / 7 * 7))) fun r3 => some r3) else some u1))
abbrev rm_X1_walk : Room := { frames := 2, cells := 0, slots := 0, locals := 44 }
def f_X1_walk_L5_B (N : Nat) (b : Nat) (u : zS) (v2 : Int32) (rec : Int32 → Int32 → Option (Int32)) (v3 : Int32) (v4 : Int32) : Option (Int32) := (if v2 ≤ v4 then some v3 else (ob (f_X1_goesOn b u v3 ((u.1 b 9) + v4)) fun r2 => rec r2 (v4 + 1)))
def f_X1_walk_L5 (N : Nat) (b : Nat) (u : zS) (v2 : Int32) : Nat → Int32 → Int32 → Option (Int32)
  | 0, _, _ => none
  | n + 1, v3, v4 => f_X1_walk_L5_B N b u v2 (f_X1_walk_L5 N b u v2 n) v3 v4
def f_X1_walk (N : Nat) (b : Nat) (u : zS) (v1 : Int32) (v2 : Int32) : Option (Int32) := (ob (f_X1_walk_L5 N b u v2 N v1 0) fun q3 => some q3)
abbrev rm_X1_roundsTillBack : Room := { frames := 3, cells := 0, slots := 0, locals := 68 }
def f_X1_roundsTillBack_L12_B (N : Nat) (b : Nat) (u : zS) (v1 : Int32) (rec : Int32 → Int32 → Option (Int32)) (v2 : Int32) (v3 : Int32) : Option (Int32) := (if 8 ≤ v2 then some v2 else (if v3 = v1 then some v2 else (ob (f_X1_walk N b u v3 (u.1 b 8)) fun r4 => rec (v2 + 1) r4)))
def f_X1_roundsTillBack_L12 (N : Nat) (b : Nat) (u : zS) (v1 : Int32) : Nat → Int32 → Int32 → Option (Int32)
  | 0, _, _ => none
  | n + 1, v2, v3 => f_X1_roundsTillBack_L12_B N b u v1 (f_X1_roundsTillBack_L12 N b u v1 n) v2 v3
def f_X1_roundsTillBack (N : Nat) (b : Nat) (u : zS) (v1 : Int32) : Option (Int32) := (ob (f_X1_walk N b u v1 (u.1 b 8)) fun r1 => (ob (f_X1_roundsTillBack_L12 N b u v1 N 1 r1) fun q5 => some q5))
abbrev rm_X1_placeBehind : Room := { frames := 4, cells := 0, slots := 0, locals := 91 }
def f_X1_placeBehind_L35_B (N : Nat) (b : Nat) (u : zS) (v2 : Int32) (v4 : Int32) (rec : Int32 → Int32 → Option (Int32)) (v5 : Int32) (v6 : Int32) : Option (Int32) := (if v4 ≤ v6 then some v5 else (ob (f_X1_walk N b u v5 (u.1 b 8)) fun r7 => rec r7 (v6 + 1)))
def f_X1_placeBehind_L35 (N : Nat) (b : Nat) (u : zS) (v2 : Int32) (v4 : Int32) : Nat → Int32 → Int32 → Option (Int32)
  | 0, _, _ => none
  | n + 1, v5, v6 => f_X1_placeBehind_L35_B N b u v2 v4 (f_X1_placeBehind_L35 N b u v2 v4 n) v5 v6
def f_X1_placeBehind (N : Nat) (b : Nat) (u : zS) (v1 : Int32) (v2 : Int32) : Option (Int32) := (ob (f_X1_roundsTillBack N b u v1) fun r1 => (if (u.1 b 8) ≤ 0 then some v1 else (if 0 < r1 then (og (neB (u.1 b 8)) <| (og (neB r1) <| (ob (f_X1_placeBehind_L35 N b u v2 ((v2 / (u.1 b 8)) - (v2 / (u.1 b 8)) / r1 * r1) N v1 0) fun q8 => (og (neB (u.1 b 8)) <| (ob (f_X1_walk N b u q8 (v2 - v2 / (u.1 b 8) * (u.1 b 8))) fun r10 => some r10))))) else some v1)))
abbrev rm_X2_comeTo : Room := { frames := 0, cells := 0, slots := 0, locals := 0 }
def f_X2_comeTo (u : zS) (v1 : Int32) (v2 : Int32) (v3 : Int32) : Option (zS) := (og (inB v1 256) <| (if (u.1 38 (Int32.toNatClampNeg v1)) = (-4) then (if (u.1 37 4) < 256 then (og (inB v2 256) <| (og (inB v1 256) <| (olet (wI u 38 (Int32.toNatClampNeg v1) ((u.1 38 (Int32.toNatClampNeg v2)) + 1)) fun u6 => (og (inB v1 256) <| (olet (wI u6 39 (Int32.toNatClampNeg v1) v2) fun u8 => (og (inB v1 256) <| (olet (wI u8 40 (Int32.toNatClampNeg v1) v3) fun u10 => (og (inB (u10.1 37 4) 256) <| (olet (wI u10 41 (Int32.toNatClampNeg (u10.1 37 4)) v1) fun u12 => (olet (wI u12 37 4 ((u12.1 37 4) + 1)) fun u13 => some u13)))))))))) else some u) else some u))
abbrev rm_X2_explore : Room := { frames := 4, cells := 0, slots := 0, locals := 86 }
def f_X2_explore_L2_B (N : Nat) (v2 : Int32) (rec : zS → Int32 → Option (zS)) (u : zS) (v3 : Int32) : Option (zS) := (if 256 ≤ v3 then some u else (og (inB v3 256) <| (olet (wI u 38 (Int32.toNatClampNeg v3) (-4)) fun u3 => rec u3 (v3 + 1))))
def f_X2_explore_L2 (N : Nat) (v2 : Int32) : Nat → zS → Int32 → Option (zS)
  | 0, _, _ => none
  | n + 1, u, v3 => f_X2_explore_L2_B N v2 (f_X2_explore_L2 N v2 n) u v3
def f_X2_explore_L62_B (N : Nat) (v3 : Int32) (rec : zS → Int32 → Option (zS)) (u : zS) (v4 : Int32) : Option (zS) := (if (u.1 1 7) ≤ v4 then some u else (og (inB v3 256) <| (ob (f_X1_setLedBy N 1 u v4 (u.1 41 (Int32.toNatClampNeg v3))) fun r13 => (og (inB v3 256) <| (ob (f_X2_comeTo u r13 (u.1 41 (Int32.toNatClampNeg v3)) v4) fun r15 => rec r15 (v4 + 1))))))
def f_X2_explore_L62 (N : Nat) (v3 : Int32) : Nat → zS → Int32 → Option (zS)
  | 0, _, _ => none
  | n + 1, u, v4 => f_X2_explore_L62_B N v3 (f_X2_explore_L62 N v3 n) u v4
def f_X2_explore_L44_B (N : Nat) (rec : zS → Int32 → Option (zS)) (u : zS) (v3 : Int32) : Option (zS) := (if (u.1 37 4) ≤ v3 then some u else (if 256 ≤ v3 then some u else (ob (f_X2_explore_L62 N v3 N u 0) fun q16 => rec q16 (v3 + 1))))
def f_X2_explore_L44 (N : Nat) : Nat → zS → Int32 → Option (zS)
  | 0, _, _ => none
  | n + 1, u, v3 => f_X2_explore_L44_B N (f_X2_explore_L44 N n) u v3
def f_X2_explore (N : Nat) (u : zS) (v2 : Int32) : Option (zS) := (ob (f_X2_explore_L2 N v2 N u 0) fun q4 => (og (inB v2 256) <| (olet (wI q4 38 (Int32.toNatClampNeg v2) 0) fun u6 => (olet (wI u6 41 0 v2) fun u7 => (olet (wI u7 37 4 1) fun u8 => (ob (f_X2_explore_L44 N N u8 0) fun q17 => some q17))))))
abbrev rm_X2_howFar : Room := { frames := 0, cells := 0, slots := 0, locals := 0 }
def f_X2_howFar (u : zS) (v1 : Int32) : Option (Int32) := (og (inB v1 256) <| some (u.1 38 (Int32.toNatClampNeg v1)))
abbrev rm_X2_figureOnWay : Room := { frames := 0, cells := 0, slots := 0, locals := 0 }
def f_X2_figureOnWay_L36_B (N : Nat) (u : zS) (v2 : Int32) (rec : Int32 → Int32 → Option (Int32)) (v3 : Int32) (v4 : Int32) : Option (Int32) := (if v4 ≤ v2 then some v3 else (og (inB v3 256) <| (olet (u.1 39 (Int32.toNatClampNeg v3)) fun w8 => rec w8 (v4 + (-1)))))
def f_X2_figureOnWay_L36 (N : Nat) (u : zS) (v2 : Int32) : Nat → Int32 → Int32 → Option (Int32)
  | 0, _, _ => none
  | n + 1, v3, v4 => f_X2_figureOnWay_L36_B N u v2 (f_X2_figureOnWay_L36 N u v2 n) v3 v4
def f_X2_figureOnWay (N : Nat) (u : zS) (v1 : Int32) (v2 : Int32) : Option (Int32) := (og (inB v1 256) <| (if (u.1 38 (Int32.toNatClampNeg v1)) = (-4) then some (-4) else (og (inB v1 256) <| (if v2 < (u.1 38 (Int32.toNatClampNeg v1)) then (og (inB v1 256) <| (ob (f_X2_figureOnWay_L36 N u v2 N v1 ((u.1 38 (Int32.toNatClampNeg v1)) - 1)) fun q9 => (og (inB q9 256) <| some (u.1 40 (Int32.toNatClampNeg q9))))) else some (-4)))))
abbrev rm_X5_span : Room := { frames := 2, cells := 0, slots := 0, locals := 41 }
def f_X5_span_L9_B (N : Nat) (v0 : Int32) (v1 : Int32) (rec : Int32 → Option ((Int32) ⊕ (Unit))) (v2 : Int32) : Option ((Int32) ⊕ (Unit)) := (if 8 ≤ v2 then some (.inr ()) else (if (f_X5_holds v0 v2) = 0 then rec (v2 + 1) else (if (f_X5_holds v0 (v2 + v1)) = 0 then rec (v2 + 1) else some (.inl v1))))
def f_X5_span_L9 (N : Nat) (v0 : Int32) (v1 : Int32) : Nat → Int32 → Option ((Int32) ⊕ (Unit))
  | 0, _ => none
  | n + 1, v2 => f_X5_span_L9_B N v0 v1 (f_X5_span_L9 N v0 v1 n) v2
def f_X5_span_L2_B (N : Nat) (v0 : Int32) (rec : Int32 → Option ((Int32) ⊕ (Unit))) (v1 : Int32) : Option ((Int32) ⊕ (Unit)) := (if 4 < v1 then some (.inr ()) else (os (f_X5_span_L9 N v0 v1 N 0) (fun q6 => some (.inl q6)) fun q5 => rec (v1 + 1)))
def f_X5_span_L2 (N : Nat) (v0 : Int32) : Nat → Int32 → Option ((Int32) ⊕ (Unit))
  | 0, _ => none
  | n + 1, v1 => f_X5_span_L2_B N v0 (f_X5_span_L2 N v0 n) v1
def f_X5_span (N : Nat) (v0 : Int32) : Option (Int32) := (os (f_X5_span_L2 N v0 N 1) (fun q8 => some q8) fun q7 => some 0)
abbrev rm_X2_widestPair : Room := { frames := 3, cells := 0, slots := 0, locals := 63 }
def f_X2_widestPair_L9_B (N : Nat) (u : zS) (rec : Int32 → Int32 → Option (Int32)) (v1 : Int32) (v2 : Int32) : Option (Int32) := (if (u.1 37 4) ≤ v2 then some v1 else (og (inB v2 256) <| (ob (f_X5_span N (u.1 41 (Int32.toNatClampNeg v2))) fun r3 => (ob (f_X5_span N v1) fun r4 => (if r3 ≤ r4 then rec v1 (v2 + 1) else (og (inB v2 256) <| (olet (u.1 41 (Int32.toNatClampNeg v2)) fun w7 => rec w7 (v2 + 1))))))))
def f_X2_widestPair_L9 (N : Nat) (u : zS) : Nat → Int32 → Int32 → Option (Int32)
  | 0, _, _ => none
  | n + 1, v1, v2 => f_X2_widestPair_L9_B N u (f_X2_widestPair_L9 N u n) v1 v2
def f_X2_widestPair (N : Nat) (u : zS) : Option (Int32) := (ob (f_X2_widestPair_L9 N u N (u.1 41 0) 1) fun q8 => some q8)
abbrev rm_X3_isThere : Room := { frames := 0, cells := 0, slots := 0, locals := 0 }
def f_X3_isThere (u : zS) (v1 : Int32) : Option (Int32) := (og (inB v1 4) <| (if (u.1 34 (Int32.toNatClampNeg v1)) = (-4) then some 0 else some 1))
abbrev rm_X3_hasItems : Room := { frames := 0, cells := 0, slots := 0, locals := 0 }
def f_X3_hasItems (u : zS) (v1 : Int32) (v2 : Int32) (v3 : Int32) : Option (Int32) := (if v3 < 0 then some 0 else (if v2 < 0 then some 0 else (og (inB v1 4) <| (if (u.1 35 (Int32.toNatClampNeg v1)) < v2 then some 0 else (og (inB v1 4) <| (if ((u.1 35 (Int32.toNatClampNeg v1)) - v2) < v3 then some 0 else some 1))))))
abbrev rm_X3_refused : Room := { frames := 1, cells := 0, slots := 0, locals := 23 }
def f_X3_refused (u : zS) (v1 : Int32) (v2 : Int32) (v3 : Int32) (v4 : Int32) : Option (Int32) := (ob (f_X3_isThere u v1) fun r1 => (if r1 = 0 then some (-11) else (og (inB v1 4) <| (if (u.1 34 (Int32.toNatClampNeg v1)) = v2 then (ob (f_X3_hasItems u v1 v3 v4) fun r5 => (if r5 = 0 then some (-13) else some 0)) else some (-12)))))
abbrev rm_X3_renew : Room := { frames := 0, cells := 0, slots := 0, locals := 0 }
def f_X3_renew_L17_B (N : Nat) (v1 : Int32) (v3 : Int32) (rec : zS → Int32 → Option (zS)) (u : zS) (v4 : Int32) : Option (zS) := (if v3 ≤ v4 then some u else (og (inB ((v1 * 24) + v4) 96) <| (olet (wL u 36 (Int32.toNatClampNeg ((v1 * 24) + v4)) 0) fun u7 => rec u7 (v4 + 1))))
def f_X3_renew_L17 (N : Nat) (v1 : Int32) (v3 : Int32) : Nat → zS → Int32 → Option (zS)
  | 0, _, _ => none
  | n + 1, u, v4 => f_X3_renew_L17_B N v1 v3 (f_X3_renew_L17 N v1 v3 n) u v4
def f_X3_renew (N : Nat) (u : zS) (v1 : Int32) (v2 : Int32) (v3 : Int32) : Option (zS) := (og (inB v1 4) <| (olet (wI u 34 (Int32.toNatClampNeg v1) v2) fun u2 => (og (inB v1 4) <| (olet (wI u2 35 (Int32.toNatClampNeg v1) v3) fun u4 => (ob (f_X3_renew_L17 N v1 v3 N u4 0) fun q8 => some q8)))))
abbrev rm_X3_takeAway : Room := { frames := 0, cells := 0, slots := 0, locals := 0 }
def f_X3_takeAway (u : zS) (v1 : Int32) : Option (Int32 × zS) := (og (inB v1 4) <| (olet (wI u 34 (Int32.toNatClampNeg v1) (-4)) fun u2 => (og (inB v1 4) <| some ((u2.1 35 (Int32.toNatClampNeg v1)), u2))))
abbrev rm_X3_itemOf : Room := { frames := 0, cells := 0, slots := 0, locals := 0 }
def f_X3_itemOf (u : zS) (v1 : Int32) (v2 : Int32) : Option (Int64) := (og (inB ((v1 * 24) + v2) 96) <| some (u.2 36 (Int32.toNatClampNeg ((v1 * 24) + v2))))
abbrev rm_X3_lowestBits : Room := { frames := 0, cells := 0, slots := 0, locals := 0 }
def f_X3_lowestBits (v0 : Int32) (v1 : Int64) : Int64 := (if v0 = 0 then (Int32.toInt64 (Int8.toInt32 (Int32.toInt8 (Int64.toInt32 v1)))) else (if v0 = 1 then (Int32.toInt64 (Int16.toInt32 (Int32.toInt16 (Int64.toInt32 v1)))) else (if v0 = 2 then (Int32.toInt64 (Int64.toInt32 v1)) else v1)))
abbrev rm_X3_put : Room := { frames := 1, cells := 0, slots := 0, locals := 22 }
def f_X3_put (u : zS) (v1 : Int32) (v2 : Int32) (v3 : Int64) : Option (zS) := (og (inB v1 4) <| (og (inB ((v1 * 24) + v2) 96) <| (olet (wL u 36 (Int32.toNatClampNeg ((v1 * 24) + v2)) (f_X3_lowestBits (u.1 34 (Int32.toNatClampNeg v1)) v3)) fun u3 => some u3)))
abbrev rm_X3_carry : Room := { frames := 1, cells := 0, slots := 0, locals := 18 }
def f_X3_carry (u : zS) (v1 : Int32) (v2 : Int32) (v3 : Int32) (v4 : Int32) (v5 : Int32) : Option (zS) := (og (cpB ((v1 * 24) + v2) ((v3 * 24) + v4) v5 96 96) <| (olet (cpL u 36 (Int32.toNatClampNeg ((v1 * 24) + v2)) 36 (Int32.toNatClampNeg ((v3 * 24) + v4)) (Int32.toNatClampNeg v5)) fun u2 => some u2))
abbrev rm_X4_isFull : Room := { frames := 0, cells := 0, slots := 0, locals := 0 }
def f_X4_isFull (u : zS) : Int32 := (if (u.1 31 1) < 60 then 0 else 1)
abbrev rm_X4_put : Room := { frames := 0, cells := 0, slots := 0, locals := 0 }
def f_X4_put (u : zS) (v1 : Int32) : Option (Int32 × zS) := (if 60 ≤ (u.1 31 1) then some ((u.1 31 1), u) else (og (inB (u.1 31 1) 60) <| (olet (wI u 32 (Int32.toNatClampNeg (u.1 31 1)) v1) fun u3 => (olet (wI u3 31 1 ((u3.1 31 1) + 1)) fun u4 => some ((u4.1 31 1), u4)))))
abbrev rm_X4_wipe : Room := { frames := 0, cells := 0, slots := 0, locals := 0 }
def f_X4_wipe (u : zS) : zS := (olet (wI u 31 1 0) fun u1 => u1)
abbrev rm_X4_next : Room := { frames := 0, cells := 0, slots := 0, locals := 0 }
def f_X4_next_L0_B (N : Nat) (rec : zS → Option (zS)) (u : zS) : Option (zS) := (if (u.1 31 1) ≤ (u.1 31 2) then some u else (og (inB (u.1 31 2) 60) <| (if (u.1 32 (Int32.toNatClampNeg (u.1 31 2))) = 32 then (olet (wI u 31 2 ((u.1 31 2) + 1)) fun u4 => rec u4) else some u)))
def f_X4_next_L0 (N : Nat) : Nat → zS → Option (zS)
  | 0, _ => none
  | n + 1, u => f_X4_next_L0_B N (f_X4_next_L0 N n) u
def f_X4_next (N : Nat) (u : zS) : Option (Int32 × zS) := (ob (f_X4_next_L0 N N u) fun q5 => (if (q5.1 31 1) ≤ (q5.1 31 2) then some (0, q5) else (og (inB (q5.1 31 2) 60) <| some ((q5.1 32 (Int32.toNatClampNeg (q5.1 31 2))), q5))))
abbrev rm_X4_takes : Room := { frames := 1, cells := 0, slots := 0, locals := 20 }
def f_X4_takes (N : Nat) (u : zS) (v1 : Int32) : Option (Int32 × zS) := (ob (f_X4_next N u) fun r1 => (if r1.1 = v1 then (olet (wI r1.2 31 2 ((r1.2.1 31 2) + 1)) fun u3 => some (1, u3)) else some (0, r1.2)))
abbrev rm_X4_readPlaces : Room := { frames := 2, cells := 0, slots := 0, locals := 41 }
def f_X4_readPlaces_L2_B (N : Nat) (rec : zS → Int32 → Option ((Int32 × zS) ⊕ (zS))) (u : zS) (v2 : Int32) : Option ((Int32 × zS) ⊕ (zS)) := (if 8 ≤ v2 then some (.inr u) else (ob (f_X4_takes N u 42) fun r2 => (if r2.1 = 0 then (ob (f_X4_takes N r2.2 46) fun r4 => (if r4.1 = 0 then some (.inl (0, r4.2)) else rec r4.2 (v2 + 1))) else (ob (f_X1_addAngel 21 r2.2 v2) fun r6 => rec r6.2 (v2 + 1)))))
def f_X4_readPlaces_L2 (N : Nat) : Nat → zS → Int32 → Option ((Int32 × zS) ⊕ (zS))
  | 0, _, _ => none
  | n + 1, u, v2 => f_X4_readPlaces_L2_B N (f_X4_readPlaces_L2 N n) u v2
def f_X4_readPlaces (N : Nat) (u : zS) : Option (Int32 × zS) := (os (f_X4_readPlaces_L2 N N u 0) (fun q8 => some q8) fun q7 => some (1, q7))
abbrev rm_X4_kindOf : Room := { frames := 0, cells := 0, slots := 0, locals := 0 }
def f_X4_kindOf (v0 : Int32) : Int32 := (if v0 = 99 then 4 else (if v0 = 101 then 1 else (if v0 = 104 then 3 else (if v0 = 109 then 2 else (if v0 = 114 then 0 else (-4))))))
abbrev rm_X4_takeDigit : Room := { frames := 1, cells := 0, slots := 0, locals := 20 }
def f_X4_takeDigit (N : Nat) (u : zS) (v1 : Int32) : Option (Int32 × zS) := (ob (f_X4_next N u) fun r1 => (if (r1.1 - 48) < 0 then some ((-4), r1.2) else (if (r1.1 - 48) < v1 then (olet (wI r1.2 31 2 ((r1.2.1 31 2) + 1)) fun u4 => some ((r1.1 - 48), u4)) else some ((-4), r1.2))))
abbrev rm_X4_readFigure : Room := { frames := 4, cells := 0, slots := 0, locals := 91 }
def f_X4_readFigure (N : Nat) (u : zS) : Option (Int32 × zS) := (ob (f_X4_next N u) fun r1 => (olet (f_X4_kindOf r1.1) fun w2 => (if w2 = (-4) then some (0, r1.2) else (olet (wI r1.2 31 2 ((r1.2.1 31 2) + 1)) fun u4 => (ob (f_X4_takeDigit N u4 8) fun r5 => (if r5.1 = (-4) then some (0, r5.2) else (ob (f_X1_addFigure N 21 r5.2 w2 r5.1) fun r7 => some (1, r7.2))))))))
abbrev rm_X4_readTune : Room := { frames := 2, cells := 0, slots := 0, locals := 42 }
def f_X4_readTune_L13_B (N : Nat) (rec : zS → Int32 → Option (zS)) (u : zS) (v2 : Int32) : Option (zS) := (if 16 ≤ v2 then some u else (ob (f_X4_takeDigit N u (u.1 21 7)) fun r4 => (if r4.1 = (-4) then some r4.2 else (ob (f_X1_addToTune 21 r4.2 r4.1) fun r6 => rec r6.2 (v2 + 1)))))
def f_X4_readTune_L13 (N : Nat) : Nat → zS → Int32 → Option (zS)
  | 0, _, _ => none
  | n + 1, u, v2 => f_X4_readTune_L13_B N (f_X4_readTune_L13 N n) u v2
def f_X4_readTune (N : Nat) (u : zS) : Option (Int32 × zS) := (ob (f_X4_takes N u 58) fun r1 => (if r1.1 = 0 then some (1, r1.2) else (ob (f_X4_readTune_L13 N N r1.2 0) fun q7 => (if (q7.1 21 8) ≤ 0 then some (0, q7) else some (1, q7)))))
abbrev rm_X4_readFigures : Room := { frames := 5, cells := 0, slots := 0, locals := 114 }
def f_X4_readFigures_L13_B (N : Nat) (rec : zS → Int32 → Option ((Int32 × zS) ⊕ (zS))) (u : zS) (v2 : Int32) : Option ((Int32 × zS) ⊕ (zS)) := (if 5 ≤ v2 then some (.inr u) else (if v2 ≤ 0 then (ob (f_X4_readFigure N u) fun r5 => (if r5.1 = 0 then some (.inl (0, r5.2)) else rec r5.2 (v2 + 1))) else (ob (f_X4_takes N u 44) fun r7 => (if r7.1 = 0 then some (.inr r7.2) else (ob (f_X4_readFigure N r7.2) fun r9 => (if r9.1 = 0 then some (.inl (0, r9.2)) else rec r9.2 (v2 + 1)))))))
def f_X4_readFigures_L13 (N : Nat) : Nat → zS → Int32 → Option ((Int32 × zS) ⊕ (zS))
  | 0, _, _ => none
  | n + 1, u, v2 => f_X4_readFigures_L13_B N (f_X4_readFigures_L13 N n) u v2
def f_X4_readFigures (N : Nat) (u : zS) : Option (Int32 × zS) := (ob (f_X4_takes N u 59) fun r1 => (if r1.1 = 0 then some (1, r1.2) else (os (f_X4_readFigures_L13 N N r1.2 0) (fun q12 => some q12) fun q11 => (ob (f_X4_readTune N q11) fun r13 => (og (zzB r13.1) <| some (r13.1, r13.2))))))
abbrev rm_X4_readInto : Room := { frames := 6, cells := 0, slots := 0, locals := 136 }
def f_X4_readInto (N : Nat) (u : zS) : Option (Int32 × zS) := (olet (wI u 31 2 0) fun u1 => (olet (f_X1_clear 21 u1) fun r2 => (ob (f_X4_readPlaces N r2) fun r3 => (if r3.1 = 0 then some (0, r3.2) else (ob (f_X4_readFigures N r3.2) fun r5 => (if r5.1 = 0 then some (0, r5.2) else (ob (f_X4_next N r5.2) fun r7 => (if r7.1 = 0 then some (1, r7.2) else some (0, r7.2)))))))))
abbrev rm_X5_angel : Room := { frames := 4, cells := 0, slots := 0, locals := 84 }
def f_X5_angel (N : Nat) (u : zS) (v1 : Int32) : Option (Int32 × zS) := (if (f_X5_isPlace v1) = 0 then some ((-1), u) else (if (u.1 1 6) < 8 then (ob (f_X1_standing N 1 u) fun r3 => (if (f_X5_holds r3 v1) = 0 then (olet (f_X0_forget 1 u) fun r5 => (ob (f_X1_addAngel 1 r5 v1) fun r6 => some (r6.1, r6.2))) else some ((-2), u))) else some ((-3), u)))
abbrev rm_X5_figure : Room := { frames := 4, cells := 0, slots := 0, locals := 91 }
def f_X5_figure (N : Nat) (u : zS) (v1 : Int32) (v2 : Int32) : Option (Int32 × zS) := (if (f_X5_within v1 0 4) = 0 then some ((-1), u) else (if (f_X5_isPlace v2) = 0 then some ((-1), u) else (if (u.1 1 7) < 5 then (olet (f_X0_forget 1 u) fun r4 => (ob (f_X1_addFigure N 1 r4 v1 v2) fun r5 => some (r5.1, r5.2))) else some ((-3), u))))
abbrev rm_X5_tune : Room := { frames := 1, cells := 0, slots := 0, locals := 21 }
def f_X5_tune (u : zS) (v1 : Int32) : Option (Int32 × zS) := (if (f_X1_hasFigure 1 u v1) = 0 then some ((-1), u) else (if (u.1 1 8) < 16 then (olet (f_X0_forget 1 u) fun r3 => (ob (f_X1_addToTune 1 r3 v1) fun r4 => some (r4.1, r4.2))) else some ((-3), u)))
abbrev rm_X5_hush : Room := { frames := 1, cells := 0, slots := 0, locals := 20 }
def f_X5_hush (u : zS) : Int32 × zS := (olet (f_X0_forget 1 u) fun r1 => (olet (wI r1 1 8 0) fun u2 => ((r1.1 1 8), u2)))
abbrev rm_X5_of : Room := { frames := 4, cells := 0, slots := 0, locals := 85 }
def f_X5_of (N : Nat) (u : zS) (v1 : Int32) (v2 : Int32) : Option (Int32) := (if (f_X1_hasFigure 1 u v1) = 0 then some (-1) else (if v2 = 0 then (og (inB v1 5) <| some (u.1 3 (Int32.toNatClampNeg v1))) else (if v2 = 1 then (og (inB v1 5) <| some (u.1 4 (Int32.toNatClampNeg v1))) else (if v2 = 2 then (ob (f_X1_orderOf N 1 u v1) fun r7 => some r7) else (if v2 = 3 then (ob (f_X1_keptBy N 1 u v1) fun r9 => some r9) else (if v2 = 4 then (ob (f_X1_leastLike N 1 u v1) fun r11 => some r11) else some (-1)))))))
abbrev rm_X5_leads : Room := { frames := 2, cells := 0, slots := 0, locals := 42 }
def f_X5_leads (u : zS) (v1 : Int32) (v2 : Int32) : Option (Int32) := (if (f_X1_hasFigure 1 u v1) = 0 then some (-1) else (if (f_X5_isPlace v2) = 0 then some (-1) else (ob (f_X1_ledBy 1 u v1 v2) fun r3 => some r3)))
abbrev rm_X5_at : Room := { frames := 1, cells := 0, slots := 0, locals := 21 }
def f_X5_at (u : zS) (v1 : Int32) : Option (Int32) := (if (f_X1_hasAngel 1 u v1) = 0 then some (-1) else (og (inB v1 8) <| some (u.1 2 (Int32.toNatClampNeg v1))))
abbrev rm_J6_bitCount_0f7a4 : Room := { frames := 0, cells := 0, slots := 0, locals := 0 }
def f_J6_bitCount_0f7a4 (v0 : Int32) : Int32 := (olet (v0 - (((v0.toUInt32 >>> (Int32.toUInt32 1 &&& Int32.toUInt32 31)).toInt32) &&& 1431655765)) fun w1 => (olet ((w1 &&& 858993459) + (((w1.toUInt32 >>> (Int32.toUInt32 2 &&& Int32.toUInt32 31)).toInt32) &&& 858993459)) fun w2 => (olet ((w2 + ((w2.toUInt32 >>> (Int32.toUInt32 4 &&& Int32.toUInt32 31)).toInt32)) &&& 252645135) fun w3 => (olet (w3 + ((w3.toUInt32 >>> (Int32.toUInt32 8 &&& Int32.toUInt32 31)).toInt32)) fun w4 => (olet (w4 + ((w4.toUInt32 >>> (Int32.toUInt32 16 &&& Int32.toUInt32 31)).toInt32)) fun w5 => (w5 &&& 63))))))
abbrev rm_X5_seenFrom : Room := { frames := 1, cells := 0, slots := 0, locals := 20 }
def f_X5_seenFrom (v0 : Int32) (v1 : Int32) : Int32 := (olet (f_X5_leftBy8 v1) fun w1 => (olet ((v0 >>> (w1 &&& (31 : Int32))) ||| (v0 <<< ((8 - w1) &&& (31 : Int32)))) fun w2 => (f_J6_bitCount_0f7a4 ((((w2 &&& 1) ||| (w2 &&& 14)) ||| (w2 &&& 224)) &&& ((((w2 &&& 14) <<< (1 &&& (31 : Int32))) ||| ((w2 &&& 224) >>> (1 &&& (31 : Int32)))) ^^^ (-1))))))
abbrev rm_X5_seen : Room := { frames := 4, cells := 0, slots := 0, locals := 84 }
def f_X5_seen (N : Nat) (u : zS) (v1 : Int32) : Option (Int32) := (if (f_X5_isPlace v1) = 0 then some (-1) else (ob (f_X1_standing N 1 u) fun r2 => some (f_X5_seenFrom r2 v1)))
abbrev rm_X5_type : Room := { frames := 1, cells := 0, slots := 0, locals := 22 }
def f_X5_type (u : zS) (v1 : Int32) : Option (Int32 × zS) := (if (f_X5_within v1 32 126) = 0 then some ((-1), u) else (if (f_X4_isFull u) = 0 then (ob (f_X4_put u v1) fun r3 => some (r3.1, r3.2)) else some ((-3), u)))
abbrev rm_X5_ring : Room := { frames := 7, cells := 0, slots := 0, locals := 157 }
def f_X5_ring (N : Nat) (u : zS) : Option (Int32 × zS) := (ob (f_X4_readInto N u) fun r1 => (olet (f_X4_wipe r1.2) fun r2 => (if r1.1 = 0 then some (((-20) - (r1.2.1 31 2)), r2) else (olet (wI r2 21 10 (r2.1 1 10)) fun u4 => (olet (f_X1_becomeLike 1 21 u4) fun r5 => some ((r5.1 1 6), r5))))))
abbrev rm_X5_count : Room := { frames := 4, cells := 0, slots := 0, locals := 84 }
def f_X5_count (N : Nat) (u : zS) (v1 : Int32) : Option (Int32) := (if v1 = 0 then some (u.1 1 6) else (if v1 = 1 then some (u.1 1 7) else (if v1 = 2 then some (u.1 1 8) else (if v1 = 3 then some (u.1 1 9) else (if v1 = 4 then (ob (f_X1_standing N 1 u) fun r6 => some r6) else (if v1 = 5 then (ob (f_X1_goneOnes N 1 u) fun r8 => some r8) else (if v1 = 6 then (ob (f_X1_figureOfBeat 1 u (u.1 1 9)) fun r10 => some r10) else (if v1 = 7 then some (u.1 7 4) else some (-1)))))))))
abbrev rm_X5_refusedBeats : Room := { frames := 1, cells := 0, slots := 0, locals := 22 }
def f_X5_refusedBeats (u : zS) (v1 : Int32) : Int32 := (if (f_X5_within v1 1 40) = 0 then (-1) else (if ((u.1 1 9) + v1) ≤ 9999 then 0 else (-3)))
abbrev rm_X5_beats : Room := { frames := 4, cells := 0, slots := 0, locals := 84 }
def f_X5_beats_L14_B (N : Nat) (v1 : Int32) (rec : zS → Int32 → Option (zS)) (u : zS) (v3 : Int32) : Option (zS) := (if v1 ≤ v3 then some u else (ob (f_X0_note 1 u) fun r4 => (ob (f_X1_dance N 1 r4) fun r5 => rec r5 (v3 + 1))))
def f_X5_beats_L14 (N : Nat) (v1 : Int32) : Nat → zS → Int32 → Option (zS)
  | 0, _, _ => none
  | n + 1, u, v3 => f_X5_beats_L14_B N v1 (f_X5_beats_L14 N v1 n) u v3
def f_X5_beats (N : Nat) (u : zS) (v1 : Int32) : Option (Int32 × zS) := (olet (f_X5_refusedBeats u v1) fun w1 => (if 0 ≤ w1 then (ob (f_X5_beats_L14 N v1 N u 0) fun q6 => (ob (f_X1_standing N 1 q6) fun r7 => some (r7, q6))) else some (w1, u)))
abbrev rm_X5_draught : Room := { frames := 4, cells := 0, slots := 0, locals := 84 }
def f_X5_draught (N : Nat) (u : zS) (v1 : Int32) : Option (Int32 × zS) := (if (f_X5_within v1 1 7) = 0 then some ((-1), u) else (ob (f_X0_note 1 u) fun r2 => (ob (f_X1_blow N 1 r2 v1) fun r3 => (ob (f_X1_standing N 1 r3) fun r4 => some (r4, r3)))))
abbrev rm_X5_leave : Room := { frames := 2, cells := 0, slots := 0, locals := 42 }
def f_X5_leave (u : zS) (v1 : Int32) : Option (Int32 × zS) := (if (f_X1_hasAngel 1 u v1) = 0 then some ((-1), u) else (og (inB v1 8) <| (olet (u.1 2 (Int32.toNatClampNeg v1)) fun w3 => (if w3 = (-4) then some ((-2), u) else (ob (f_X0_note 1 u) fun r5 => (og (inB v1 8) <| (olet (wI r5 2 (Int32.toNatClampNeg v1) (-4)) fun u7 => some (w3, u7))))))))
abbrev rm_X5_come : Room := { frames := 4, cells := 0, slots := 0, locals := 84 }
def f_X5_come (N : Nat) (u : zS) (v1 : Int32) (v2 : Int32) : Option (Int32 × zS) := (if (f_X1_hasAngel 1 u v1) = 0 then some ((-1), u) else (if (f_X5_isPlace v2) = 0 then some ((-1), u) else (og (inB v1 8) <| (if (u.1 2 (Int32.toNatClampNeg v1)) = (-4) then (ob (f_X1_standing N 1 u) fun r5 => (if (f_X5_holds r5 v2) = 0 then (ob (f_X0_note 1 u) fun r7 => (og (inB v1 8) <| (olet (wI r7 2 (Int32.toNatClampNeg v1) v2) fun u9 => (ob (f_X1_standing N 1 u9) fun r10 => some ((f_J6_bitCount_0f7a4 r10), u9))))) else some ((-2), u))) else some ((-2), u)))))
abbrev rm_X5_drift : Room := { frames := 4, cells := 0, slots := 0, locals := 84 }
def f_X5_drift_L14_B (N : Nat) (v1 : Int32) (rec : zS → Int32 → Option (zS)) (u : zS) (v3 : Int32) : Option (zS) := (if v1 ≤ v3 then some u else (ob (f_X0_note 1 u) fun r4 => (ob (f_X1_drawAndBlow N 1 r4) fun r5 => (ob (f_X1_dance N 1 r5) fun r6 => rec r6 (v3 + 1)))))
def f_X5_drift_L14 (N : Nat) (v1 : Int32) : Nat → zS → Int32 → Option (zS)
  | 0, _, _ => none
  | n + 1, u, v3 => f_X5_drift_L14_B N v1 (f_X5_drift_L14 N v1 n) u v3
def f_X5_drift (N : Nat) (u : zS) (v1 : Int32) : Option (Int32 × zS) := (olet (f_X5_refusedBeats u v1) fun w1 => (if 0 ≤ w1 then (ob (f_X5_drift_L14 N v1 N u 0) fun q7 => (ob (f_X1_standing N 1 q7) fun r8 => some (r8, q7))) else some (w1, u)))
abbrev rm_X5_undo : Room := { frames := 2, cells := 0, slots := 0, locals := 39 }
def f_X5_undo (u : zS) : Option (Int32 × zS) := (if 0 < (u.1 7 4) then (ob (f_X0_bringBack 1 u) fun r2 => some ((r2.1 7 4), r2)) else some ((-4), u))
abbrev rm_X5_seed : Room := { frames := 0, cells := 0, slots := 0, locals := 0 }
def f_X5_seed (u : zS) (v1 : Int32) : Int32 × zS := (if 0 ≤ v1 then (olet (wI u 1 10 v1) fun u2 => ((u.1 1 10), u2)) else ((-1), u))
abbrev rm_X5_ahead : Room := { frames := 5, cells := 0, slots := 0, locals := 117 }
def f_X5_ahead (N : Nat) (u : zS) (v1 : Int32) (v2 : Int32) : Option (Int32) := (if (f_X1_hasAngel 1 u v1) = 0 then some (-1) else (if (f_X5_within v2 0 2000000000) = 0 then some (-1) else (og (inB v1 8) <| (ob (f_X1_placeBehind N 1 u (u.1 2 (Int32.toNatClampNeg v1)) v2) fun r4 => some r4))))
abbrev rm_X5_then : Room := { frames := 5, cells := 0, slots := 0, locals := 117 }
def f_X5_then_L38_B (N : Nat) (u : zS) (v1 : Int32) (v2 : Int32) (v3 : Int32) (rec : Int32 → Int32 → Int32 → Option (Int32 × Int32)) (v4 : Int32) (v5 : Int32) (v6 : Int32) : Option (Int32 × Int32) := (if (u.1 1 6) ≤ v6 then some (v4, v5) else (og (inB v6 8) <| (ob (f_X1_placeBehind N 1 u (u.1 2 (Int32.toNatClampNeg v6)) v2) fun r6 => (olet (v4 ||| (f_X5_bitOf r6)) fun w7 => (if r6 = v1 then rec w7 v6 (v6 + 1) else rec w7 v5 (v6 + 1))))))
def f_X5_then_L38 (N : Nat) (u : zS) (v1 : Int32) (v2 : Int32) (v3 : Int32) : Nat → Int32 → Int32 → Int32 → Option (Int32 × Int32)
  | 0, _, _, _ => none
  | n + 1, v4, v5, v6 => f_X5_then_L38_B N u v1 v2 v3 (f_X5_then_L38 N u v1 v2 v3 n) v4 v5 v6
def f_X5_then (N : Nat) (u : zS) (v1 : Int32) (v2 : Int32) (v3 : Int32) : Option (Int32) := (if (f_X5_isPlace v1) = 0 then some (-1) else (if (f_X5_within v2 0 2000000000) = 0 then some (-1) else (if (f_X5_within v3 0 1) = 0 then some (-1) else (ob (f_X5_then_L38 N u v1 v2 v3 N 0 (-4) 0) fun q9 => (if v3 = 0 then some q9.2 else some (f_X5_seenFrom q9.1 v1))))))
abbrev rm_X5_roundsTillAllBack : Room := { frames := 4, cells := 0, slots := 0, locals := 91 }
def f_X5_roundsTillAllBack_L4_B (N : Nat) (u : zS) (rec : Int32 → Int32 → Option (Int32)) (v1 : Int32) (v2 : Int32) : Option (Int32) := (if (u.1 1 6) ≤ v2 then some v1 else (og (inB v2 8) <| (ob (f_X1_roundsTillBack N 1 u (u.1 2 (Int32.toNatClampNeg v2))) fun r3 => (ob (f_X5_greatestCommon N v1 r3) fun r4 => (if r4 ≤ 0 then rec v1 (v2 + 1) else (og (neB r4) <| (olet ((v1 / r4) * r3) fun w7 => rec w7 (v2 + 1))))))))
def f_X5_roundsTillAllBack_L4 (N : Nat) (u : zS) : Nat → Int32 → Int32 → Option (Int32)
  | 0, _, _ => none
  | n + 1, v1, v2 => f_X5_roundsTillAllBack_L4_B N u (f_X5_roundsTillAllBack_L4 N u n) v1 v2
def f_X5_roundsTillAllBack (N : Nat) (u : zS) : Option (Int32) := (ob (f_X5_roundsTillAllBack_L4 N u N 1 0) fun q8 => some q8)
abbrev rm_X5_back : Room := { frames := 5, cells := 0, slots := 0, locals := 115 }
def f_X5_back (N : Nat) (u : zS) (v1 : Int32) : Option (Int32) := (if v1 = (-1) then (ob (f_X5_roundsTillAllBack N u) fun r5 => some ((u.1 1 8) * r5)) else (if (f_X1_hasAngel 1 u v1) = 0 then some (-1) else (og (inB v1 8) <| (ob (f_X1_roundsTillBack N 1 u (u.1 2 (Int32.toNatClampNeg v1))) fun r4 => some ((u.1 1 8) * r4)))))
abbrev rm_X5_been : Room := { frames := 3, cells := 0, slots := 0, locals := 62 }
def f_X5_been_L31_B (N : Nat) (u : zS) (rec : Int32 → Int32 → Int32 → Option (Int32)) (v2 : Int32) (v3 : Int32) (v4 : Int32) : Option (Int32) := (if (8 * (u.1 1 8)) ≤ v4 then some v3 else (ob (f_X1_goesOn 1 u v2 ((u.1 1 9) + v4)) fun r6 => (olet (v3 ||| (f_X5_bitOf r6)) fun w7 => rec r6 w7 (v4 + 1))))
def f_X5_been_L31 (N : Nat) (u : zS) : Nat → Int32 → Int32 → Int32 → Option (Int32)
  | 0, _, _, _ => none
  | n + 1, v2, v3, v4 => f_X5_been_L31_B N u (f_X5_been_L31 N u n) v2 v3 v4
def f_X5_been (N : Nat) (u : zS) (v1 : Int32) : Option (Int32) := (if (f_X1_hasAngel 1 u v1) = 0 then some (-1) else (og (inB v1 8) <| (olet (u.1 2 (Int32.toNatClampNeg v1)) fun w3 => (olet (f_X5_bitOf w3) fun w4 => (ob (f_X5_been_L31 N u N w3 w4 0) fun q8 => some q8)))))
abbrev rm_X5_shortest : Room := { frames := 5, cells := 0, slots := 0, locals := 110 }
def f_X5_shortest (N : Nat) (u : zS) (v1 : Int32) (v2 : Int32) : Option (Int32 × zS) := (if (f_X5_within v1 0 255) = 0 then some ((-1), u) else (if (-1) ≤ v2 then (ob (f_X1_standing N 1 u) fun r3 => (ob (f_X2_explore N u r3) fun r4 => (if v2 = (-1) then (ob (f_X2_howFar r4 v1) fun r7 => some (r7, r4)) else (ob (f_X2_figureOnWay N r4 v1 v2) fun r6 => some (r6, r4))))) else some ((-1), u)))
abbrev rm_X5_sorts : Room := { frames := 5, cells := 0, slots := 0, locals := 110 }
def f_X5_sorts (N : Nat) (u : zS) : Option (Int32 × zS) := (ob (f_X1_standing N 1 u) fun r1 => (ob (f_X2_explore N u r1) fun r2 => some ((r2.1 37 4), r2)))
abbrev rm_X5_apart : Room := { frames := 5, cells := 0, slots := 0, locals := 110 }
def f_X5_apart (N : Nat) (u : zS) (v1 : Int32) (v2 : Int32) (v3 : Int32) : Option (Int32 × zS) := (if (f_X1_hasAngel 1 u v1) = 0 then some ((-1), u) else (if (f_X1_hasAngel 1 u v2) = 0 then some ((-1), u) else (if v1 = v2 then some ((-1), u) else (if (f_X5_within v3 0 1) = 0 then some ((-1), u) else (og (inB v1 8) <| (if (u.1 2 (Int32.toNatClampNeg v1)) = (-4) then some ((-2), u) else (og (inB v2 8) <| (if (u.1 2 (Int32.toNatClampNeg v2)) = (-4) then some ((-2), u) else (og (inB v1 8) <| (og (inB v2 8) <| (ob (f_X2_explore N u ((f_X5_bitOf (u.1 2 (Int32.toNatClampNeg v1))) ||| (f_X5_bitOf (u.1 2 (Int32.toNatClampNeg v2))))) fun r11 => (ob (f_X2_widestPair N r11) fun r12 => (if v3 = 0 then (ob (f_X2_howFar r11 r12) fun r15 => some (r15, r11)) else (ob (f_X5_span N r12) fun r14 => some (r14, r11)))))))))))))))
abbrev rm_X5_countWaysOn : Room := { frames := 1, cells := 0, slots := 0, locals := 22 }
def f_X5_countWaysOn_L2_B (N : Nat) (rec : zS → Int32 → Option (zS)) (u : zS) (v1 : Int32) : Option (zS) := (if 8 ≤ v1 then some u else (og (inB v1 8) <| (olet (wI u 43 (Int32.toNatClampNeg v1) 0) fun u3 => rec u3 (v1 + 1))))
def f_X5_countWaysOn_L2 (N : Nat) : Nat → zS → Int32 → Option (zS)
  | 0, _, _ => none
  | n + 1, u, v1 => f_X5_countWaysOn_L2_B N (f_X5_countWaysOn_L2 N n) u v1
def f_X5_countWaysOn_L36_B (N : Nat) (v1 : Int32) (rec : zS → Int32 → Option (zS)) (u : zS) (v2 : Int32) : Option (zS) := (if 8 ≤ v2 then some u else (ob (f_X1_ledBy 1 u v1 v2) fun r7 => (og (inB r7 8) <| (og (inB v2 8) <| (og (inB r7 8) <| (olet (wI u 43 (Int32.toNatClampNeg r7) ((u.1 43 (Int32.toNatClampNeg r7)) + (u.1 42 (Int32.toNatClampNeg v2)))) fun u11 => rec u11 (v2 + 1)))))))
def f_X5_countWaysOn_L36 (N : Nat) (v1 : Int32) : Nat → zS → Int32 → Option (zS)
  | 0, _, _ => none
  | n + 1, u, v2 => f_X5_countWaysOn_L36_B N v1 (f_X5_countWaysOn_L36 N v1 n) u v2
def f_X5_countWaysOn_L23_B (N : Nat) (rec : zS → Int32 → Option (zS)) (u : zS) (v1 : Int32) : Option (zS) := (if (u.1 1 7) ≤ v1 then some u else (ob (f_X5_countWaysOn_L36 N v1 N u 0) fun q12 => rec q12 (v1 + 1)))
def f_X5_countWaysOn_L23 (N : Nat) : Nat → zS → Int32 → Option (zS)
  | 0, _, _ => none
  | n + 1, u, v1 => f_X5_countWaysOn_L23_B N (f_X5_countWaysOn_L23 N n) u v1
def f_X5_countWaysOn_L79_B (N : Nat) (rec : zS → Int32 → Option (zS)) (u : zS) (v1 : Int32) : Option (zS) := (if 8 ≤ v1 then some u else (og (inB v1 8) <| (og (inB v1 8) <| (olet (wI u 42 (Int32.toNatClampNeg v1) (u.1 43 (Int32.toNatClampNeg v1))) fun u17 => rec u17 (v1 + 1)))))
def f_X5_countWaysOn_L79 (N : Nat) : Nat → zS → Int32 → Option (zS)
  | 0, _, _ => none
  | n + 1, u, v1 => f_X5_countWaysOn_L79_B N (f_X5_countWaysOn_L79 N n) u v1
def f_X5_countWaysOn (N : Nat) (u : zS) : Option (zS) := (ob (f_X5_countWaysOn_L2 N N u 0) fun q4 => (ob (f_X5_countWaysOn_L23 N N q4 0) fun q13 => (ob (f_X5_countWaysOn_L79 N N q13 0) fun q18 => some q18)))
abbrev rm_X5_countWays : Room := { frames := 2, cells := 0, slots := 0, locals := 44 }
def f_X5_countWays_L2_B (N : Nat) (v1 : Int32) (v2 : Int32) (rec : zS → Int32 → Option (zS)) (u : zS) (v3 : Int32) : Option (zS) := (if 8 ≤ v3 then some u else (if v3 = v1 then (og (inB v3 8) <| (olet (wI u 42 (Int32.toNatClampNeg v3) 1) fun u6 => rec u6 (v3 + 1))) else (og (inB v3 8) <| (olet (wI u 42 (Int32.toNatClampNeg v3) 0) fun u4 => rec u4 (v3 + 1)))))
def f_X5_countWays_L2 (N : Nat) (v1 : Int32) (v2 : Int32) : Nat → zS → Int32 → Option (zS)
  | 0, _, _ => none
  | n + 1, u, v3 => f_X5_countWays_L2_B N v1 v2 (f_X5_countWays_L2 N v1 v2 n) u v3
def f_X5_countWays_L32_B (N : Nat) (v2 : Int32) (rec : zS → Int32 → Option (zS)) (u : zS) (v3 : Int32) : Option (zS) := (if v2 ≤ v3 then some u else (ob (f_X5_countWaysOn N u) fun r9 => rec r9 (v3 + 1)))
def f_X5_countWays_L32 (N : Nat) (v2 : Int32) : Nat → zS → Int32 → Option (zS)
  | 0, _, _ => none
  | n + 1, u, v3 => f_X5_countWays_L32_B N v2 (f_X5_countWays_L32 N v2 n) u v3
def f_X5_countWays (N : Nat) (u : zS) (v1 : Int32) (v2 : Int32) : Option (zS) := (ob (f_X5_countWays_L2 N v1 v2 N u 0) fun q7 => (ob (f_X5_countWays_L32 N v2 N q7 0) fun q10 => some q10))
abbrev rm_X5_chance : Room := { frames := 3, cells := 0, slots := 0, locals := 67 }
def f_X5_chance_L87_B (N : Nat) (u : zS) (v2 : Int32) (v3 : Int32) (v4 : Int32) (rec : Int32 → Int32 → Option (Int32)) (v5 : Int32) (v6 : Int32) : Option (Int32) := (if v3 ≤ v6 then some v5 else (olet (v5 * (u.1 1 7)) fun w11 => rec w11 (v6 + 1)))
def f_X5_chance_L87 (N : Nat) (u : zS) (v2 : Int32) (v3 : Int32) (v4 : Int32) : Nat → Int32 → Int32 → Option (Int32)
  | 0, _, _ => none
  | n + 1, v5, v6 => f_X5_chance_L87_B N u v2 v3 v4 (f_X5_chance_L87 N u v2 v3 v4 n) v5 v6
def f_X5_chance (N : Nat) (u : zS) (v1 : Int32) (v2 : Int32) (v3 : Int32) (v4 : Int32) : Option (Int32 × zS) := (if (f_X1_hasAngel 1 u v1) = 0 then some ((-1), u) else (if (f_X5_isPlace v2) = 0 then some ((-1), u) else (if (f_X5_within v3 0 8) = 0 then some ((-1), u) else (if (f_X5_within v4 0 1) = 0 then some ((-1), u) else (og (inB v1 8) <| (if (u.1 2 (Int32.toNatClampNeg v1)) = (-4) then some ((-2), u) else (if 0 < (u.1 1 7) then (og (inB v1 8) <| (ob (f_X5_countWays N u (u.1 2 (Int32.toNatClampNeg v1)) v3) fun r9 => (ob (f_X5_chance_L87 N r9 v2 v3 v4 N 1 0) fun q12 => (og (inB v2 8) <| (ob (f_X5_greatestCommon N (r9.1 42 (Int32.toNatClampNeg v2)) q12) fun r14 => (if 0 < r14 then (if v4 = 0 then (og (inB v2 8) <| (og (neB r14) <| some (((r9.1 42 (Int32.toNatClampNeg v2)) / r14), r9))) else (og (neB r14) <| some ((q12 / r14), r9))) else some ((-4), r9))))))) else some ((-2), u))))))))
abbrev rm_X5_image : Room := { frames := 3, cells := 0, slots := 0, locals := 60 }
def f_X5_image (u : zS) : Int32 × zS := (olet (f_X1_becomeLike 11 1 u) fun r1 => (olet (wI r1 0 8 1) fun u2 => (1, u2)))
abbrev rm_X5_restore : Room := { frames := 3, cells := 0, slots := 0, locals := 60 }
def f_X5_restore (u : zS) : Int32 × zS := (if (u.1 0 8) = 0 then ((-4), u) else (olet (f_X1_becomeLike 1 11 u) fun r2 => (1, r2)))
abbrev rm_X5_isSheet : Room := { frames := 1, cells := 0, slots := 0, locals := 22 }
def f_X5_isSheet (v0 : Int32) : Int32 := (f_X5_within v0 0 3)
abbrev rm_X5_isLane : Room := { frames := 1, cells := 0, slots := 0, locals := 22 }
def f_X5_isLane (v0 : Int32) : Int32 := (f_X5_within v0 0 3)
abbrev rm_X5_isSeenAsTold : Room := { frames := 2, cells := 0, slots := 0, locals := 46 }
def f_X5_isSeenAsTold_L3_B (N : Nat) (u : zS) (v1 : Int32) (v2 : Int32) (v3 : Int32) (v4 : Int32) (v5 : Int32) (rec : Int32 → Option ((Int32) ⊕ (Unit))) (v6 : Int32) : Option ((Int32) ⊕ (Unit)) := (if v5 ≤ v6 then some (.inr ()) else (ob (f_X3_itemOf u v3 (v4 + v6)) fun r2 => (if (lg_cmp r2 (Int32.toInt64 (f_X5_seenFrom v1 (v2 + v6)))) = 0 then rec (v6 + 1) else some (.inl 0))))
def f_X5_isSeenAsTold_L3 (N : Nat) (u : zS) (v1 : Int32) (v2 : Int32) (v3 : Int32) (v4 : Int32) (v5 : Int32) : Nat → Int32 → Option ((Int32) ⊕ (Unit))
  | 0, _ => none
  | n + 1, v6 => f_X5_isSeenAsTold_L3_B N u v1 v2 v3 v4 v5 (f_X5_isSeenAsTold_L3 N u v1 v2 v3 v4 v5 n) v6
def f_X5_isSeenAsTold (N : Nat) (u : zS) (v1 : Int32) (v2 : Int32) (v3 : Int32) (v4 : Int32) (v5 : Int32) : Option (Int32) := (os (f_X5_isSeenAsTold_L3 N u v1 v2 v3 v4 v5 N 0) (fun q5 => some q5) fun q4 => some 1)
abbrev rm_X5_counts : Room := { frames := 3, cells := 0, slots := 0, locals := 72 }
def f_X5_counts_L81_B (N : Nat) (u : zS) (v1 : Int32) (v2 : Int32) (v4 : Int32) (v5 : Int32) (v6 : Int32) (rec : Int32 → Int32 → Int32 → Int32 → Option (Int32 × Int32 × Int32)) (v8 : Int32) (v9 : Int32) (v10 : Int32) (v11 : Int32) : Option (Int32 × Int32 × Int32) := (if 256 ≤ v11 then some (v8, v9, v10) else (ob (f_X5_isSeenAsTold N u v11 v1 v2 v4 v5) fun r9 => (if r9 = 0 then rec v8 v9 v10 (v11 + 1) else (olet (f_J6_bitCount_0f7a4 v11) fun w11 => (if v9 = (-4) then (olet (if v10 < w11 then w11 else v10) fun w15 => rec (v8 + 1) w11 w15 (v11 + 1)) else (olet (if w11 < v9 then w11 else v9) fun w13 => (olet (if v10 < w11 then w11 else v10) fun w14 => rec (v8 + 1) w13 w14 (v11 + 1))))))))
def f_X5_counts_L81 (N : Nat) (u : zS) (v1 : Int32) (v2 : Int32) (v4 : Int32) (v5 : Int32) (v6 : Int32) : Nat → Int32 → Int32 → Int32 → Int32 → Option (Int32 × Int32 × Int32)
  | 0, _, _, _, _ => none
  | n + 1, v8, v9, v10, v11 => f_X5_counts_L81_B N u v1 v2 v4 v5 v6 (f_X5_counts_L81 N u v1 v2 v4 v5 v6 n) v8 v9 v10 v11
def f_X5_counts (N : Nat) (u : zS) (v1 : Int32) (v2 : Int32) (v3 : Int32) (v4 : Int32) (v5 : Int32) (v6 : Int32) : Option (Int32) := (if (f_X5_isPlace v1) = 0 then some (-1) else (if (f_X5_isSheet v2) = 0 then some (-1) else (if (f_X5_isLane v3) = 0 then some (-1) else (if (f_X5_within v5 1 8) = 0 then some (-1) else (if (f_X5_within v6 0 2) = 0 then some (-1) else (ob (f_X3_refused u v2 v3 v4 v5) fun r6 => (if 0 ≤ r6 then (ob (f_X5_counts_L81 N u v1 v2 v4 v5 v6 N 0 (-4) (-4) 0) fun q16 => (if v6 = 0 then some q16.1 else (if v6 = 1 then some q16.2.1 else some q16.2.2))) else some r6)))))))
abbrev rm_X5_goesAsTold : Room := { frames := 2, cells := 0, slots := 0, locals := 44 }
def f_X5_goesAsTold_L11_B (N : Nat) (u : zS) (v3 : Int32) (v4 : Int32) (v5 : Int32) (rec : Int32 → Int32 → Option ((Int32) ⊕ (Unit))) (v6 : Int32) (v7 : Int32) : Option ((Int32) ⊕ (Unit)) := (if v5 ≤ v7 then some (.inr ()) else (ob (f_X1_goesOn 21 u v6 ((u.1 21 9) + v7)) fun r4 => (ob (f_X3_itemOf u v3 (v4 + v7)) fun r5 => (if (lg_cmp r5 (Int32.toInt64 r4)) = 0 then rec r4 (v7 + 1) else some (.inl 0)))))
def f_X5_goesAsTold_L11 (N : Nat) (u : zS) (v3 : Int32) (v4 : Int32) (v5 : Int32) : Nat → Int32 → Int32 → Option ((Int32) ⊕ (Unit))
  | 0, _, _ => none
  | n + 1, v6, v7 => f_X5_goesAsTold_L11_B N u v3 v4 v5 (f_X5_goesAsTold_L11 N u v3 v4 v5 n) v6 v7
def f_X5_goesAsTold (N : Nat) (u : zS) (v2 : Int32) (v3 : Int32) (v4 : Int32) (v5 : Int32) : Option (Int32) := (og (inB v2 8) <| (olet (u.1 22 (Int32.toNatClampNeg v2)) fun w2 => (os (f_X5_goesAsTold_L11 N u v3 v4 v5 N w2 0) (fun q8 => some q8) fun q7 => some 1)))
abbrev rm_X5_steps : Room := { frames := 3, cells := 0, slots := 0, locals := 71 }
def f_X5_steps_J186 (N : Nat) (v1 : Int32) (v2 : Int32) (v3 : Int32) (v5 : Int32) (v6 : Int32) (v7 : Int32) (v10 : Int32) (rec : zS → Int32 → Int32 → Option (Int32 × zS)) (u : zS) (v9 : Int32) (v11 : Int32) : Option (Int32 × zS) := (ob (f_X5_goesAsTold N u v1 v3 v5 v6) fun r17 => (if r17 = 0 then rec u v9 (v11 + 1) else (olet (v9 ||| (1 <<< (v11 &&& (31 : Int32)))) fun w19 => rec u w19 (v11 + 1))))
def f_X5_steps_L133_B (N : Nat) (v1 : Int32) (v2 : Int32) (v3 : Int32) (v5 : Int32) (v6 : Int32) (v7 : Int32) (v10 : Int32) (rec : zS → Int32 → Int32 → Option (Int32 × zS)) (u : zS) (v9 : Int32) (v11 : Int32) : Option (Int32 × zS) := (if v10 ≤ v11 then some (v9, u) else (if v7 = 0 then (og (inB v2 5) <| (ob (f_X1_tell N 21 u v2 v11 (u.1 4 (Int32.toNatClampNeg v2))) fun r21 => f_X5_steps_J186 N v1 v2 v3 v5 v6 v7 v10 rec r21 v9 v11)) else (og (inB v2 5) <| (ob (f_X1_tell N 21 u v2 (u.1 3 (Int32.toNatClampNeg v2)) v11) fun r16 => f_X5_steps_J186 N v1 v2 v3 v5 v6 v7 v10 rec r16 v9 v11))))
def f_X5_steps_L133 (N : Nat) (v1 : Int32) (v2 : Int32) (v3 : Int32) (v5 : Int32) (v6 : Int32) (v7 : Int32) (v10 : Int32) : Nat → zS → Int32 → Int32 → Option (Int32 × zS)
  | 0, _, _, _ => none
  | n + 1, u, v9, v11 => f_X5_steps_L133_B N v1 v2 v3 v5 v6 v7 v10 (f_X5_steps_L133 N v1 v2 v3 v5 v6 v7 v10 n) u v9 v11
def f_X5_steps_J128 (N : Nat) (u : zS) (v1 : Int32) (v2 : Int32) (v3 : Int32) (v5 : Int32) (v6 : Int32) (v7 : Int32) (v9 : Int32) (s0 : Int32) : Option (Int32 × zS) := (ob (f_X5_steps_L133 N v1 v2 v3 v5 v6 v7 s0 N u v9 0) fun q22 => some (q22.1, q22.2))
def f_X5_steps (N : Nat) (u : zS) (v1 : Int32) (v2 : Int32) (v3 : Int32) (v4 : Int32) (v5 : Int32) (v6 : Int32) (v7 : Int32) : Option (Int32 × zS) := (if (f_X1_hasAngel 1 u v1) = 0 then some ((-1), u) else (if (f_X1_hasFigure 1 u v2) = 0 then some ((-1), u) else (if (f_X5_isSheet v3) = 0 then some ((-1), u) else (if (f_X5_isLane v4) = 0 then some ((-1), u) else (if (f_X5_within v6 1 8) = 0 then some ((-1), u) else (if (f_X5_within v7 0 1) = 0 then some ((-1), u) else (ob (f_X3_refused u v3 v4 v5 v6) fun r7 => (if 0 ≤ r7 then (og (inB v1 8) <| (if (u.1 2 (Int32.toNatClampNeg v1)) = (-4) then some ((-2), u) else (olet (f_X1_becomeLike 21 1 u) fun r11 => (if v7 = 0 then f_X5_steps_J128 N r11 v1 v2 v3 v5 v6 v7 0 5 else f_X5_steps_J128 N r11 v1 v2 v3 v5 v6 v7 0 8)))) else some (r7, u)))))))))
abbrev rm_X5_film : Room := { frames := 2, cells := 0, slots := 0, locals := 47 }
def f_X5_film_L75_B (N : Nat) (v2 : Int32) (v3 : Int32) (v5 : Int32) (rec : zS → Int32 → Int32 → Option (zS)) (u : zS) (v7 : Int32) (v8 : Int32) : Option (zS) := (if v2 ≤ v8 then some u else (ob (f_X1_goesOn 1 u v7 ((u.1 1 9) + v8)) fun r10 => (ob (f_X3_put u v3 (v5 + v8) (Int32.toInt64 r10)) fun r11 => rec r11 r10 (v8 + 1))))
def f_X5_film_L75 (N : Nat) (v2 : Int32) (v3 : Int32) (v5 : Int32) : Nat → zS → Int32 → Int32 → Option (zS)
  | 0, _, _, _ => none
  | n + 1, u, v7, v8 => f_X5_film_L75_B N v2 v3 v5 (f_X5_film_L75 N v2 v3 v5 n) u v7 v8
def f_X5_film (N : Nat) (u : zS) (v1 : Int32) (v2 : Int32) (v3 : Int32) (v4 : Int32) (v5 : Int32) : Option (Int32 × zS) := (if (f_X1_hasAngel 1 u v1) = 0 then some ((-1), u) else (if (f_X5_within v2 1 24) = 0 then some ((-1), u) else (if (f_X5_isSheet v3) = 0 then some ((-1), u) else (if (f_X5_isLane v4) = 0 then some ((-1), u) else (ob (f_X3_refused u v3 v4 v5 v2) fun r5 => (if 0 ≤ r5 then (og (inB v1 8) <| (olet (u.1 2 (Int32.toNatClampNeg v1)) fun w8 => (ob (f_X5_film_L75 N v2 v3 v5 N u w8 0) fun q12 => some (v2, q12)))) else some (r5, u)))))))
abbrev rm_X5_sheet : Room := { frames := 2, cells := 0, slots := 0, locals := 42 }
def f_X5_sheet (N : Nat) (u : zS) (v1 : Int32) (v2 : Int32) (v3 : Int32) : Option (Int32 × zS) := (if (f_X5_isSheet v1) = 0 then some ((-1), u) else (if (f_X5_isLane v2) = 0 then some ((-1), u) else (if v3 ≤ 24 then (if 0 ≤ v3 then (ob (f_X3_renew N u v1 v2 v3) fun r5 => some (v3, r5)) else some ((-14), u)) else some ((-1), u))))
abbrev rm_X5_drop : Room := { frames := 2, cells := 0, slots := 0, locals := 42 }
def f_X5_drop (u : zS) (v1 : Int32) : Option (Int32 × zS) := (if (f_X5_isSheet v1) = 0 then some ((-1), u) else (ob (f_X3_isThere u v1) fun r2 => (if r2 = 0 then some ((-11), u) else (ob (f_X3_takeAway u v1) fun r4 => some (r4.1, r4.2)))))
abbrev rm_X5_item : Room := { frames := 2, cells := 0, slots := 0, locals := 47 }
def f_X5_item (u : zS) (v1 : Int32) (v2 : Int32) (v3 : Int32) (v4 : Int64) : Option (Int32 × zS) := (if (f_X5_isSheet v1) = 0 then some ((-1), u) else (if (f_X5_isLane v2) = 0 then some ((-1), u) else (ob (f_X3_refused u v1 v2 v3 1) fun r3 => (if 0 ≤ r3 then (ob (f_X3_put u v1 v3 v4) fun r5 => some (1, r5)) else some (r3, u)))))
abbrev rm_X5_copy : Room := { frames := 2, cells := 0, slots := 0, locals := 43 }
def f_X5_copy (u : zS) (v1 : Int32) (v2 : Int32) (v3 : Int32) (v4 : Int32) (v5 : Int32) : Option (Int32 × zS) := (if (f_X5_isSheet v1) = 0 then some ((-1), u) else (if (f_X5_isSheet v3) = 0 then some ((-1), u) else (ob (f_X3_isThere u v1) fun r3 => (if r3 = 0 then some ((-11), u) else (ob (f_X3_isThere u v3) fun r5 => (if r5 = 0 then some ((-11), u) else (og (inB v1 4) <| (og (inB v3 4) <| (if (u.1 34 (Int32.toNatClampNeg v1)) = (u.1 34 (Int32.toNatClampNeg v3)) then (ob (f_X3_hasItems u v1 v2 v5) fun r10 => (if r10 = 0 then some ((-13), u) else (ob (f_X3_hasItems u v3 v4 v5) fun r12 => (if r12 = 0 then some ((-13), u) else (ob (f_X3_carry u v1 v2 v3 v4 v5) fun r14 => some (v5, r14)))))) else some ((-12), u))))))))))
abbrev rm_X6_in : Room := { frames := 0, cells := 0, slots := 0, locals := 0 }
def f_X6_in (v0 : Int64) (v2 : Int64) (v4 : Int64) : Int32 := (if (lg_cmp v0 v2) < 0 then 0 else (if 0 < (lg_cmp v0 v4) then 0 else 1))
abbrev rm_X6_has : Room := { frames := 0, cells := 0, slots := 0, locals := 0 }
def f_X6_has (v0 : Int32) (v1 : Int32) : Int32 := (if ((v0 >>> (v1 &&& (31 : Int32))) &&& 1) = 1 then 1 else 0)
abbrev rm_X6_ones : Room := { frames := 0, cells := 0, slots := 0, locals := 0 }
def f_X6_ones_L4_B (N : Nat) (v0 : Int32) (rec : Int32 → Int32 → Option (Int32)) (v1 : Int32) (v2 : Int32) : Option (Int32) := (if 8 ≤ v2 then some v1 else (olet (v1 + ((v0 >>> (v2 &&& (31 : Int32))) &&& 1)) fun w2 => rec w2 (v2 + 1)))
def f_X6_ones_L4 (N : Nat) (v0 : Int32) : Nat → Int32 → Int32 → Option (Int32)
  | 0, _, _ => none
  | n + 1, v1, v2 => f_X6_ones_L4_B N v0 (f_X6_ones_L4 N v0 n) v1 v2
def f_X6_ones (N : Nat) (v0 : Int32) : Option (Int32) := (ob (f_X6_ones_L4 N v0 N 0 0) fun q3 => some q3)
abbrev rm_X6_bring : Room := { frames := 0, cells := 0, slots := 0, locals := 0 }
def f_X6_bring_L3_B (N : Nat) (v1 : Int32) (v2 : Int32) (v3 : Int32) (rec : zS → Int32 → Option (zS)) (u : zS) (v4 : Int32) : Option (zS) := (if v3 ≤ v4 then some u else (og (inB (v1 + v4) 279) <| (og (inB (v2 + v4) 279) <| (olet (wI u 1 (Int32.toNatClampNeg (v2 + v4)) (u.1 1 (Int32.toNatClampNeg (v1 + v4)))) fun u4 => rec u4 (v4 + 1)))))
def f_X6_bring_L3 (N : Nat) (v1 : Int32) (v2 : Int32) (v3 : Int32) : Nat → zS → Int32 → Option (zS)
  | 0, _, _ => none
  | n + 1, u, v4 => f_X6_bring_L3_B N v1 v2 v3 (f_X6_bring_L3 N v1 v2 v3 n) u v4
def f_X6_bring (N : Nat) (u : zS) (v1 : Int32) (v2 : Int32) (v3 : Int32) : Option (zS) := (ob (f_X6_bring_L3 N v1 v2 v3 N u 0) fun q5 => some q5)
abbrev rm_X6_isPlace : Room := { frames := 1, cells := 0, slots := 0, locals := 25 }
def f_X6_isPlace (v0 : Int32) : Int32 := (f_X6_in (Int32.toInt64 v0) 0 7)
abbrev rm_X6_isAngel : Room := { frames := 1, cells := 0, slots := 0, locals := 25 }
def f_X6_isAngel (u : zS) (v1 : Int32) : Int32 := (f_X6_in (Int32.toInt64 v1) 0 (Int32.toInt64 ((u.1 1 0) - 1)))
abbrev rm_X6_isFigure : Room := { frames := 1, cells := 0, slots := 0, locals := 25 }
def f_X6_isFigure (u : zS) (v1 : Int32) : Int32 := (f_X6_in (Int32.toInt64 v1) 0 (Int32.toInt64 ((u.1 1 1) - 1)))
abbrev rm_X6_round : Room := { frames := 0, cells := 0, slots := 0, locals := 0 }
def f_X6_round (v0 : Int32) (v1 : Int32) : Int32 := ((v0 + v1) - (v0 + v1) / 8 * 8)
abbrev rm_X6_mirror : Room := { frames := 1, cells := 0, slots := 0, locals := 21 }
def f_X6_mirror (v0 : Int32) (v1 : Int32) : Int32 := (f_X6_round ((8 - v0) - (8 - v0) / 8 * 8) v1)
abbrev rm_X6_leadsBy : Room := { frames := 2, cells := 0, slots := 0, locals := 42 }
def f_X6_leadsBy (v0 : Int32) (v1 : Int32) (v2 : Int32) : Int32 := (if v0 = 1 then (f_X6_round (f_X6_round v2 v1) v1) else (if v0 = 2 then (f_X6_mirror v2 v1) else (if v0 = 3 then (if (v2 - v2 / 2 * 2) = 0 then (f_X6_round (f_X6_round v2 v1) v1) else v2) else (if v0 = 4 then (if (f_X6_mirror v2 v1) = 0 then 4 else (if (f_X6_mirror v2 v1) = 4 then 0 else (f_X6_mirror v2 v1))) else (f_X6_round v2 v1)))))
abbrev rm_X6_leadsOf : Room := { frames := 3, cells := 0, slots := 0, locals := 64 }
def f_X6_leadsOf (u : zS) (v1 : Int32) (v2 : Int32) : Option (Int32) := (og (inB (13 + v1) 279) <| (og (inB (18 + v1) 279) <| some (f_X6_leadsBy (u.1 1 (Int32.toNatClampNeg (13 + v1))) (u.1 1 (Int32.toNatClampNeg (18 + v1))) v2)))
abbrev rm_X6_orderOf : Room := { frames := 4, cells := 0, slots := 0, locals := 86 }
def f_X6_orderOf_L7_B (N : Nat) (v1 : Int32) (v2 : Int32) (v3 : Int32) (rec : zS → Int32 → Option (zS)) (u : zS) (v4 : Int32) : Option (zS) := (if 8 ≤ v4 then some u else (og (inB v4 8) <| (olet (wI u 6 (Int32.toNatClampNeg v4) v4) fun u3 => rec u3 (v4 + 1))))
def f_X6_orderOf_L7 (N : Nat) (v1 : Int32) (v2 : Int32) (v3 : Int32) : Nat → zS → Int32 → Option (zS)
  | 0, _, _ => none
  | n + 1, u, v4 => f_X6_orderOf_L7_B N v1 v2 v3 (f_X6_orderOf_L7 N v1 v2 v3 n) u v4
def f_X6_orderOf_L41_B (N : Nat) (v1 : Int32) (v2 : Int32) (rec : zS → Int32 → Int32 → Option (Int32 × zS)) (u : zS) (v3 : Int32) (v4 : Int32) : Option (Int32 × zS) := (if 8 ≤ v4 then some (v3, u) else (og (inB v4 8) <| (ob (f_X6_leadsOf u v1 (u.1 6 (Int32.toNatClampNeg v4))) fun r8 => (og (inB v4 8) <| (olet (wI u 6 (Int32.toNatClampNeg v4) r8) fun u10 => (if v3 = 0 then rec u10 0 (v4 + 1) else (og (inB v4 8) <| (if (u10.1 6 (Int32.toNatClampNeg v4)) = v4 then rec u10 1 (v4 + 1) else rec u10 0 (v4 + 1)))))))))
def f_X6_orderOf_L41 (N : Nat) (v1 : Int32) (v2 : Int32) : Nat → zS → Int32 → Int32 → Option (Int32 × zS)
  | 0, _, _, _ => none
  | n + 1, u, v3, v4 => f_X6_orderOf_L41_B N v1 v2 (f_X6_orderOf_L41 N v1 v2 n) u v3 v4
def f_X6_orderOf_L29_B (N : Nat) (v1 : Int32) (rec : zS → Int32 → Int32 → Option (Int32 × zS)) (u : zS) (v2 : Int32) (v3 : Int32) : Option (Int32 × zS) := (if v3 = 0 then (ob (f_X6_orderOf_L41 N v1 (v2 + 1) N u 1 0) fun q14 => rec q14.2 (v2 + 1) q14.1) else some (v2, u))
def f_X6_orderOf_L29 (N : Nat) (v1 : Int32) : Nat → zS → Int32 → Int32 → Option (Int32 × zS)
  | 0, _, _, _ => none
  | n + 1, u, v2, v3 => f_X6_orderOf_L29_B N v1 (f_X6_orderOf_L29 N v1 n) u v2 v3
def f_X6_orderOf (N : Nat) (u : zS) (v1 : Int32) : Option (Int32 × zS) := (ob (f_X6_orderOf_L7 N v1 0 0 N u 0) fun q4 => (ob (f_X6_orderOf_L29 N v1 N q4 0 0) fun q15 => some (q15.1, q15.2)))
abbrev rm_X6_keptBy : Room := { frames := 4, cells := 0, slots := 0, locals := 86 }
def f_X6_keptBy_L4_B (N : Nat) (u : zS) (v1 : Int32) (rec : Int32 → Int32 → Option (Int32)) (v2 : Int32) (v3 : Int32) : Option (Int32) := (if 8 ≤ v3 then some v2 else (ob (f_X6_leadsOf u v1 v3) fun r2 => (if r2 = v3 then (olet (v2 ||| (1 <<< (v3 &&& (31 : Int32)))) fun w4 => rec w4 (v3 + 1)) else rec (v2 ||| 0) (v3 + 1))))
def f_X6_keptBy_L4 (N : Nat) (u : zS) (v1 : Int32) : Nat → Int32 → Int32 → Option (Int32)
  | 0, _, _ => none
  | n + 1, v2, v3 => f_X6_keptBy_L4_B N u v1 (f_X6_keptBy_L4 N u v1 n) v2 v3
def f_X6_keptBy (N : Nat) (u : zS) (v1 : Int32) : Option (Int32) := (ob (f_X6_keptBy_L4 N u v1 N 0 0) fun q5 => some q5)
abbrev rm_X6_areAlike : Room := { frames := 4, cells := 0, slots := 0, locals := 86 }
def f_X6_areAlike_L5_B (N : Nat) (u : zS) (v1 : Int32) (v2 : Int32) (rec : Int32 → Int32 → Option (Int32)) (v3 : Int32) (v4 : Int32) : Option (Int32) := (if 8 ≤ v4 then some v3 else (if v3 = 0 then rec 0 (v4 + 1) else (ob (f_X6_leadsOf u v1 v4) fun r3 => (ob (f_X6_leadsOf u v2 v4) fun r4 => (if r3 = r4 then rec 1 (v4 + 1) else rec 0 (v4 + 1))))))
def f_X6_areAlike_L5 (N : Nat) (u : zS) (v1 : Int32) (v2 : Int32) : Nat → Int32 → Int32 → Option (Int32)
  | 0, _, _ => none
  | n + 1, v3, v4 => f_X6_areAlike_L5_B N u v1 v2 (f_X6_areAlike_L5 N u v1 v2 n) v3 v4
def f_X6_areAlike (N : Nat) (u : zS) (v1 : Int32) (v2 : Int32) : Option (Int32) := (ob (f_X6_areAlike_L5 N u v1 v2 N 1 0) fun q6 => (og (zzB q6) <| some q6))
abbrev rm_X6_sameAs : Room := { frames := 5, cells := 0, slots := 0, locals := 110 }
def f_X6_sameAs_L2_B (N : Nat) (u : zS) (v1 : Int32) (rec : Int32 → Option (Int32)) (v2 : Int32) : Option (Int32) := (ob (f_X6_areAlike N u v1 v2) fun r1 => (if r1 = 0 then rec (v2 + 1) else some v2))
def f_X6_sameAs_L2 (N : Nat) (u : zS) (v1 : Int32) : Nat → Int32 → Option (Int32)
  | 0, _ => none
  | n + 1, v2 => f_X6_sameAs_L2_B N u v1 (f_X6_sameAs_L2 N u v1 n) v2
def f_X6_sameAs (N : Nat) (u : zS) (v1 : Int32) : Option (Int32) := (ob (f_X6_sameAs_L2 N u v1 N 0) fun q3 => some q3)
abbrev rm_X6_taken : Room := { frames := 0, cells := 0, slots := 0, locals := 0 }
def f_X6_taken_L4_B (N : Nat) (u : zS) (rec : Int32 → Int32 → Option (Int32)) (v1 : Int32) (v2 : Int32) : Option (Int32) := (if (u.1 1 0) ≤ v2 then some v1 else (og (inB (5 + v2) 279) <| (if (u.1 1 (Int32.toNatClampNeg (5 + v2))) = (-4) then rec (v1 ||| 0) (v2 + 1) else (og (inB (5 + v2) 279) <| (olet (v1 ||| (1 <<< ((u.1 1 (Int32.toNatClampNeg (5 + v2))) &&& (31 : Int32)))) fun w5 => rec w5 (v2 + 1))))))
def f_X6_taken_L4 (N : Nat) (u : zS) : Nat → Int32 → Int32 → Option (Int32)
  | 0, _, _ => none
  | n + 1, v1, v2 => f_X6_taken_L4_B N u (f_X6_taken_L4 N u n) v1 v2
def f_X6_taken (N : Nat) (u : zS) : Option (Int32) := (ob (f_X6_taken_L4 N u N 0 0) fun q6 => some q6)
abbrev rm_X6_angel : Room := { frames := 2, cells := 0, slots := 0, locals := 45 }
def f_X6_angel (N : Nat) (u : zS) (v1 : Int32) : Option (Int32 × zS) := (if (f_X6_isPlace v1) = 0 then some ((-1), u) else (if (u.1 1 0) = 8 then some ((-3), u) else (ob (f_X6_taken N u) fun r3 => (if (f_X6_has r3 v1) = 0 then (og (inB (5 + (u.1 1 0)) 279) <| (olet (wI u 1 (Int32.toNatClampNeg (5 + (u.1 1 0))) v1) fun u6 => (olet (wI u6 1 0 ((u6.1 1 0) + 1)) fun u7 => (olet (wI u7 1 39 0) fun u8 => some (((u8.1 1 0) - 1), u8))))) else some ((-2), u)))))
abbrev rm_X6_figure : Room := { frames := 1, cells := 0, slots := 0, locals := 25 }
def f_X6_figure (u : zS) (v1 : Int32) (v2 : Int32) : Option (Int32 × zS) := (if (f_X6_in (Int32.toInt64 v1) 0 4) = 0 then some ((-1), u) else (if (f_X6_in (Int32.toInt64 v2) 0 7) = 0 then some ((-1), u) else (if (u.1 1 1) = 5 then some ((-3), u) else (og (inB (13 + (u.1 1 1)) 279) <| (olet (wI u 1 (Int32.toNatClampNeg (13 + (u.1 1 1))) v1) fun u5 => (og (inB (18 + (u5.1 1 1)) 279) <| (olet (wI u5 1 (Int32.toNatClampNeg (18 + (u5.1 1 1))) v2) fun u7 => (olet (wI u7 1 1 ((u7.1 1 1) + 1)) fun u8 => (olet (wI u8 1 39 0) fun u9 => some (((u9.1 1 1) - 1), u9))))))))))
abbrev rm_X6_tune : Room := { frames := 2, cells := 0, slots := 0, locals := 46 }
def f_X6_tune (u : zS) (v1 : Int32) : Option (Int32 × zS) := (if (f_X6_isFigure u v1) = 0 then some ((-1), u) else (if (u.1 1 2) = 16 then some ((-3), u) else (og (inB (23 + (u.1 1 2)) 279) <| (olet (wI u 1 (Int32.toNatClampNeg (23 + (u.1 1 2))) v1) fun u4 => (olet (wI u4 1 2 ((u4.1 1 2) + 1)) fun u5 => (olet (wI u5 1 39 0) fun u6 => some ((u6.1 1 2), u6)))))))
abbrev rm_X6_hush : Room := { frames := 0, cells := 0, slots := 0, locals := 0 }
def f_X6_hush (u : zS) : Int32 × zS := (olet (wI u 1 2 0) fun u1 => (olet (wI u1 1 39 0) fun u2 => ((u.1 1 2), u2)))
abbrev rm_X6_of : Room := { frames := 6, cells := 0, slots := 0, locals := 132 }
def f_X6_of (N : Nat) (u : zS) (v1 : Int32) (v2 : Int32) : Option (Int32 × zS) := (if (f_X6_isFigure u v1) = 0 then some ((-1), u) else (if v2 = 0 then (og (inB (13 + v1) 279) <| some ((u.1 1 (Int32.toNatClampNeg (13 + v1))), u)) else (if v2 = 1 then (og (inB (18 + v1) 279) <| some ((u.1 1 (Int32.toNatClampNeg (18 + v1))), u)) else (if v2 = 2 then (ob (f_X6_orderOf N u v1) fun r7 => some (r7.1, r7.2)) else (if v2 = 3 then (ob (f_X6_keptBy N u v1) fun r9 => some (r9, u)) else (if v2 = 4 then (ob (f_X6_sameAs N u v1) fun r11 => some (r11, u)) else some ((-1), u)))))))
abbrev rm_X6_leads : Room := { frames := 4, cells := 0, slots := 0, locals := 86 }
def f_X6_leads (u : zS) (v1 : Int32) (v2 : Int32) : Option (Int32) := (if (f_X6_isFigure u v1) = 0 then some (-1) else (if (f_X6_isPlace v2) = 0 then some (-1) else (ob (f_X6_leadsOf u v1 v2) fun r3 => some r3)))
abbrev rm_X6_at : Room := { frames := 2, cells := 0, slots := 0, locals := 46 }
def f_X6_at (u : zS) (v1 : Int32) : Option (Int32) := (if (f_X6_isAngel u v1) = 0 then some (-1) else (og (inB (5 + v1) 279) <| some (u.1 1 (Int32.toNatClampNeg (5 + v1)))))
abbrev rm_X6_seenOf : Room := { frames := 1, cells := 0, slots := 0, locals := 21 }
def f_X6_seenOf_J63 (N : Nat) (v0 : Int32) (v1 : Int32) (rec : Int32 → Int32 → Option (Int32)) (v2 : Int32) (v3 : Int32) (v4 : Int32) (s0 : Int32) : Option (Int32) := (if (f_X6_has v0 v4) = 0 then rec (v2 + 0) (v3 + 1) else (if s0 = 0 then rec (v2 + 1) (v3 + 1) else rec (v2 + 0) (v3 + 1)))
def f_X6_seenOf_J62 (N : Nat) (v0 : Int32) (v1 : Int32) (rec : Int32 → Int32 → Option (Int32)) (v2 : Int32) (v3 : Int32) (v4 : Int32) : Option (Int32) := f_X6_seenOf_J63 N v0 v1 rec v2 v3 v4 0
def f_X6_seenOf_J49 (N : Nat) (v0 : Int32) (v1 : Int32) (rec : Int32 → Int32 → Option (Int32)) (v2 : Int32) (v3 : Int32) (v4 : Int32) (v5 : Int32) : Option (Int32) := (if (f_X6_has v0 v5) = 0 then f_X6_seenOf_J62 N v0 v1 rec v2 v3 v4 else f_X6_seenOf_J63 N v0 v1 rec v2 v3 v4 1)
def f_X6_seenOf_J33 (N : Nat) (v0 : Int32) (v1 : Int32) (rec : Int32 → Int32 → Option (Int32)) (v2 : Int32) (v3 : Int32) (v4 : Int32) (s0 : Int32) (s1 : Int32) : Option (Int32) := (if 1 < v3 then f_X6_seenOf_J49 N v0 v1 rec v2 v3 v4 ((s0 + s1) - (s0 + s1) / 8 * 8) else (if (-1) ≤ v3 then f_X6_seenOf_J62 N v0 v1 rec v2 v3 v4 else f_X6_seenOf_J49 N v0 v1 rec v2 v3 v4 ((s0 + s1) - (s0 + s1) / 8 * 8)))
def f_X6_seenOf_L5_B (N : Nat) (v0 : Int32) (v1 : Int32) (rec : Int32 → Int32 → Option (Int32)) (v2 : Int32) (v3 : Int32) : Option (Int32) := (if 3 < v3 then some v2 else (olet (((v1 + v3) + 8) - ((v1 + v3) + 8) / 8 * 8) fun w2 => (if v3 ≤ 0 then f_X6_seenOf_J33 N v0 v1 rec v2 v3 w2 w2 1 else f_X6_seenOf_J33 N v0 v1 rec v2 v3 w2 w2 7)))
def f_X6_seenOf_L5 (N : Nat) (v0 : Int32) (v1 : Int32) : Nat → Int32 → Int32 → Option (Int32)
  | 0, _, _ => none
  | n + 1, v2, v3 => f_X6_seenOf_L5_B N v0 v1 (f_X6_seenOf_L5 N v0 v1 n) v2 v3
def f_X6_seenOf (N : Nat) (v0 : Int32) (v1 : Int32) : Option (Int32) := (ob (f_X6_seenOf_L5 N v0 v1 N 0 (-3)) fun q9 => some q9)
abbrev rm_X6_seen : Room := { frames := 2, cells := 0, slots := 0, locals := 47 }
def f_X6_seen (N : Nat) (u : zS) (v1 : Int32) : Option (Int32) := (if (f_X6_isPlace v1) = 0 then some (-1) else (ob (f_X6_taken N u) fun r2 => (ob (f_X6_seenOf N r2 v1) fun r3 => some r3)))
abbrev rm_X6_type : Room := { frames := 1, cells := 0, slots := 0, locals := 25 }
def f_X6_type (u : zS) (v1 : Int32) : Option (Int32 × zS) := (if (f_X6_in (Int32.toInt64 v1) 32 126) = 0 then some ((-1), u) else (if (u.1 0 3) = 60 then some ((-3), u) else (og (inB (u.1 0 3) 60) <| (olet (wI u 2 (Int32.toNatClampNeg (u.1 0 3)) v1) fun u4 => (olet (wI u4 0 3 ((u4.1 0 3) + 1)) fun u5 => some ((u5.1 0 3), u5))))))
abbrev rm_X6_peek : Room := { frames := 0, cells := 0, slots := 0, locals := 0 }
def f_X6_peek_L0_B (N : Nat) (rec : zS → Option (zS)) (u : zS) : Option (zS) := (if (u.1 0 3) ≤ (u.1 0 8) then some u else (og (inB (u.1 0 8) 60) <| (if (u.1 2 (Int32.toNatClampNeg (u.1 0 8))) = 32 then (olet (wI u 0 8 ((u.1 0 8) + 1)) fun u4 => rec u4) else some u)))
def f_X6_peek_L0 (N : Nat) : Nat → zS → Option (zS)
  | 0, _ => none
  | n + 1, u => f_X6_peek_L0_B N (f_X6_peek_L0 N n) u
def f_X6_peek (N : Nat) (u : zS) : Option (Int32 × zS) := (ob (f_X6_peek_L0 N N u) fun q5 => (if (q5.1 0 3) ≤ (q5.1 0 8) then some (0, q5) else (og (inB (q5.1 0 8) 60) <| some ((q5.1 2 (Int32.toNatClampNeg (q5.1 0 8))), q5))))
abbrev rm_X6_takes : Room := { frames := 1, cells := 0, slots := 0, locals := 20 }
def f_X6_takes (N : Nat) (u : zS) (v1 : Int32) : Option (Int32 × zS) := (ob (f_X6_peek N u) fun r1 => (if r1.1 = v1 then (olet (wI r1.2 0 8 ((r1.2.1 0 8) + 1)) fun u3 => some (1, u3)) else some (0, r1.2)))
abbrev rm_X6_kindOf : Room := { frames := 0, cells := 0, slots := 0, locals := 0 }
def f_X6_kindOf (v0 : Int32) : Int32 := (if v0 = 114 then 0 else (if v0 = 101 then 1 else (if v0 = 109 then 2 else (if v0 = 104 then 3 else (if v0 = 99 then 4 else (-1))))))
abbrev rm_X6_takesPlaces : Room := { frames := 1, cells := 0, slots := 0, locals := 20 }
def f_X6_takesPlaces_J27 (N : Nat) (rec : zS → Int32 → Option ((Int32 × zS) ⊕ (zS))) (u : zS) (v1 : Int32) (v2 : Int32) : Option ((Int32 × zS) ⊕ (zS)) := (olet (wI u 0 8 ((u.1 0 8) + 1)) fun u4 => (if v2 = 42 then (og (inB (245 + (u4.1 1 240)) 279) <| (olet (wI u4 1 (Int32.toNatClampNeg (245 + (u4.1 1 240))) v1) fun u7 => (olet (wI u7 1 240 ((u7.1 1 240) + 1)) fun u8 => rec u8 (v1 + 1)))) else rec u4 (v1 + 1)))
def f_X6_takesPlaces_L2_B (N : Nat) (rec : zS → Int32 → Option ((Int32 × zS) ⊕ (zS))) (u : zS) (v1 : Int32) : Option ((Int32 × zS) ⊕ (zS)) := (if 8 ≤ v1 then some (.inr u) else (ob (f_X6_peek N u) fun r2 => (if r2.1 = 46 then f_X6_takesPlaces_J27 N rec r2.2 v1 r2.1 else (if r2.1 = 42 then f_X6_takesPlaces_J27 N rec r2.2 v1 r2.1 else some (.inl (0, r2.2))))))
def f_X6_takesPlaces_L2 (N : Nat) : Nat → zS → Int32 → Option ((Int32 × zS) ⊕ (zS))
  | 0, _, _ => none
  | n + 1, u, v1 => f_X6_takesPlaces_L2_B N (f_X6_takesPlaces_L2 N n) u v1
def f_X6_takesPlaces (N : Nat) (u : zS) : Option (Int32 × zS) := (os (f_X6_takesPlaces_L2 N N u 0) (fun q11 => some q11) fun q10 => some (1, q10))
abbrev rm_X6_takesFigure : Room := { frames := 1, cells := 0, slots := 0, locals := 25 }
def f_X6_takesFigure (N : Nat) (u : zS) : Option (Int32 × zS) := (ob (f_X6_peek N u) fun r1 => (olet (f_X6_kindOf r1.1) fun w2 => (if 0 ≤ w2 then (olet (wI r1.2 0 8 ((r1.2.1 0 8) + 1)) fun u4 => (ob (f_X6_peek N u4) fun r5 => (if (f_X6_in (Int32.toInt64 (r5.1 - 48)) 0 7) = 0 then some (0, r5.2) else (olet (wI r5.2 0 8 ((r5.2.1 0 8) + 1)) fun u7 => (og (inB (253 + (u7.1 1 241)) 279) <| (olet (wI u7 1 (Int32.toNatClampNeg (253 + (u7.1 1 241))) w2) fun u9 => (og (inB (258 + (u9.1 1 241)) 279) <| (olet (wI u9 1 (Int32.toNatClampNeg (258 + (u9.1 1 241))) (r5.1 - 48)) fun u11 => (olet (wI u11 1 241 ((u11.1 1 241) + 1)) fun u12 => some (1, u12)))))))))) else some (0, r1.2))))
abbrev rm_X6_takesTune : Room := { frames := 1, cells := 0, slots := 0, locals := 25 }
def f_X6_takesTune (N : Nat) (u : zS) : Option (Int32 × zS) := (ob (f_X6_peek N u) fun r1 => (if (f_X6_in (Int32.toInt64 (r1.1 - 48)) 0 (Int32.toInt64 ((r1.2.1 1 241) - 1))) = 0 then some (0, r1.2) else (olet (wI r1.2 0 8 ((r1.2.1 0 8) + 1)) fun u3 => (og (inB (263 + (u3.1 1 242)) 279) <| (olet (wI u3 1 (Int32.toNatClampNeg (263 + (u3.1 1 242))) (r1.1 - 48)) fun u5 => (olet (wI u5 1 242 ((u5.1 1 242) + 1)) fun u6 => some (1, u6)))))))
abbrev rm_X6_takesRing : Room := { frames := 2, cells := 0, slots := 0, locals := 47 }
def f_X6_takesRing_L18_B (N : Nat) (rec : zS → Option ((Int32 × zS) ⊕ (zS))) (u : zS) : Option ((Int32 × zS) ⊕ (zS)) := (ob (f_X6_takesFigure N u) fun r7 => (if r7.1 = 0 then some (.inl (0, r7.2)) else (if 5 ≤ (r7.2.1 1 241) then some (.inr r7.2) else (ob (f_X6_takes N r7.2 44) fun r10 => (if r10.1 = 0 then some (.inr r10.2) else rec r10.2)))))
def f_X6_takesRing_L18 (N : Nat) : Nat → zS → Option ((Int32 × zS) ⊕ (zS))
  | 0, _ => none
  | n + 1, u => f_X6_takesRing_L18_B N (f_X6_takesRing_L18 N n) u
def f_X6_takesRing_L57_B (N : Nat) (rec : zS → Option ((Int32 × zS) ⊕ (zS))) (u : zS) : Option ((Int32 × zS) ⊕ (zS)) := (ob (f_X6_takesTune N u) fun r18 => (if r18.1 = 0 then some (.inl (0, r18.2)) else (if 16 ≤ (r18.2.1 1 242) then some (.inr r18.2) else (ob (f_X6_peek N r18.2) fun r21 => (if r21.1 = 0 then some (.inr r21.2) else rec r21.2)))))
def f_X6_takesRing_L57 (N : Nat) : Nat → zS → Option ((Int32 × zS) ⊕ (zS))
  | 0, _ => none
  | n + 1, u => f_X6_takesRing_L57_B N (f_X6_takesRing_L57 N n) u
def f_X6_takesRing_J48 (N : Nat) (u : zS) : Option (Int32 × zS) := (ob (f_X6_takes N u 58) fun r14 => (if r14.1 = 0 then (ob (f_X6_peek N r14.2) fun r16 => (if r16.1 = 0 then some (1, r16.2) else some (0, r16.2))) else (os (f_X6_takesRing_L57 N N r14.2) (fun q24 => some q24) fun q23 => (ob (f_X6_peek N q23) fun r25 => (if r25.1 = 0 then some (1, r25.2) else some (0, r25.2))))))
def f_X6_takesRing (N : Nat) (u : zS) : Option (Int32 × zS) := (ob (f_X6_takesPlaces N u) fun r1 => (if r1.1 = 0 then some (0, r1.2) else (ob (f_X6_takes N r1.2 59) fun r3 => (if r3.1 = 0 then (ob (f_X6_peek N r3.2) fun r5 => (if r5.1 = 0 then some (1, r5.2) else some (0, r5.2))) else (os (f_X6_takesRing_L18 N N r3.2) (fun q13 => some q13) fun q12 => f_X6_takesRing_J48 N q12)))))
abbrev rm_X6_ring : Room := { frames := 3, cells := 0, slots := 0, locals := 67 }
def f_X6_ring_L2_B (N : Nat) (rec : zS → Int32 → Option (zS)) (u : zS) (v1 : Int32) : Option (zS) := (if 39 ≤ v1 then some u else (og (inB (240 + v1) 279) <| (olet (wI u 1 (Int32.toNatClampNeg (240 + v1)) 0) fun u3 => rec u3 (v1 + 1))))
def f_X6_ring_L2 (N : Nat) : Nat → zS → Int32 → Option (zS)
  | 0, _, _ => none
  | n + 1, u, v1 => f_X6_ring_L2_B N (f_X6_ring_L2 N n) u v1
def f_X6_ring_L27_B (N : Nat) (rec : zS → Int32 → Option (zS)) (u : zS) (v1 : Int32) : Option (zS) := (if 8 ≤ v1 then some u else (og (inB (245 + v1) 279) <| (olet (wI u 1 (Int32.toNatClampNeg (245 + v1)) (-4)) fun u7 => rec u7 (v1 + 1))))
def f_X6_ring_L27 (N : Nat) : Nat → zS → Int32 → Option (zS)
  | 0, _, _ => none
  | n + 1, u, v1 => f_X6_ring_L27_B N (f_X6_ring_L27 N n) u v1
def f_X6_ring (N : Nat) (u : zS) : Option (Int32 × zS) := (ob (f_X6_ring_L2 N N u 0) fun q4 => (ob (f_X6_ring_L27 N N q4 0) fun q8 => (olet (wI q8 1 244 (q8.1 1 4)) fun u9 => (olet (wI u9 0 8 0) fun u10 => (ob (f_X6_takesRing N u10) fun r11 => (olet (wI r11.2 0 3 0) fun u12 => (if r11.1 = 0 then some (((-20) - (u12.1 0 8)), u12) else (ob (f_X6_bring N u12 240 0 39) fun r14 => (olet (wI r14 1 39 0) fun u15 => some ((u15.1 1 0), u15))))))))))
abbrev rm_X6_goneOnes : Room := { frames := 0, cells := 0, slots := 0, locals := 0 }
def f_X6_goneOnes_L4_B (N : Nat) (u : zS) (rec : Int32 → Int32 → Option (Int32)) (v1 : Int32) (v2 : Int32) : Option (Int32) := (if (u.1 1 0) ≤ v2 then some v1 else (og (inB (5 + v2) 279) <| (if (u.1 1 (Int32.toNatClampNeg (5 + v2))) = (-4) then (olet (v1 ||| (1 <<< (v2 &&& (31 : Int32)))) fun w4 => rec w4 (v2 + 1)) else rec (v1 ||| 0) (v2 + 1))))
def f_X6_goneOnes_L4 (N : Nat) (u : zS) : Nat → Int32 → Int32 → Option (Int32)
  | 0, _, _ => none
  | n + 1, v1, v2 => f_X6_goneOnes_L4_B N u (f_X6_goneOnes_L4 N u n) v1 v2
def f_X6_goneOnes (N : Nat) (u : zS) : Option (Int32) := (ob (f_X6_goneOnes_L4 N u N 0 0) fun q5 => some q5)
abbrev rm_X6_count : Room := { frames := 1, cells := 0, slots := 0, locals := 22 }
def f_X6_count (N : Nat) (u : zS) (v1 : Int32) : Option (Int32) := (if v1 = 0 then some (u.1 1 0) else (if v1 = 1 then some (u.1 1 1) else (if v1 = 2 then some (u.1 1 2) else (if v1 = 3 then some (u.1 1 3) else (if v1 = 4 then (ob (f_X6_taken N u) fun r6 => some r6) else (if v1 = 5 then (ob (f_X6_goneOnes N u) fun r8 => some r8) else (if v1 = 6 then (if (u.1 1 2) = 0 then some (-4) else (og (neB (u.1 1 2)) <| (og (inB (23 + ((u.1 1 3) - (u.1 1 3) / (u.1 1 2) * (u.1 1 2))) 279) <| some (u.1 1 (Int32.toNatClampNeg (23 + ((u.1 1 3) - (u.1 1 3) / (u.1 1 2) * (u.1 1 2)))))))) else (if v1 = 7 then some (u.1 1 39) else some (-1)))))))))
abbrev rm_X6_minds : Room := { frames := 1, cells := 0, slots := 0, locals := 24 }
def f_X6_minds_J33 (N : Nat) (u : zS) : Option (zS) := (ob (f_X6_bring N u 3 (40 + (10 * (u.1 1 39))) 10) fun r2 => (olet (wI r2 1 39 ((r2.1 1 39) + 1)) fun u3 => some u3))
def f_X6_minds (N : Nat) (u : zS) : Option (zS) := (if (u.1 1 39) = 8 then (ob (f_X6_bring N u 50 40 70) fun r4 => (olet (wI r4 1 39 ((r4.1 1 39) - 1)) fun u5 => f_X6_minds_J33 N u5)) else f_X6_minds_J33 N u)
abbrev rm_X6_passes : Room := { frames := 4, cells := 0, slots := 0, locals := 86 }
def f_X6_passes_L2_B (N : Nat) (rec : zS → Int32 → Option (zS)) (u : zS) (v1 : Int32) : Option (zS) := (if (u.1 1 0) ≤ v1 then some u else (if (u.1 1 2) ≤ 0 then some u else (og (inB (5 + v1) 279) <| (if (u.1 1 (Int32.toNatClampNeg (5 + v1))) = (-4) then rec u (v1 + 1) else (og (neB (u.1 1 2)) <| (og (inB (23 + ((u.1 1 3) - (u.1 1 3) / (u.1 1 2) * (u.1 1 2))) 279) <| (og (inB (5 + v1) 279) <| (ob (f_X6_leadsOf u (u.1 1 (Int32.toNatClampNeg (23 + ((u.1 1 3) - (u.1 1 3) / (u.1 1 2) * (u.1 1 2))))) (u.1 1 (Int32.toNatClampNeg (5 + v1)))) fun r8 => (og (inB (5 + v1) 279) <| (olet (wI u 1 (Int32.toNatClampNeg (5 + v1)) r8) fun u10 => rec u10 (v1 + 1)))))))))))
def f_X6_passes_L2 (N : Nat) : Nat → zS → Int32 → Option (zS)
  | 0, _, _ => none
  | n + 1, u, v1 => f_X6_passes_L2_B N (f_X6_passes_L2 N n) u v1
def f_X6_passes (N : Nat) (u : zS) : Option (zS) := (ob (f_X6_passes_L2 N N u 0) fun q11 => (olet (wI q11 1 3 ((q11.1 1 3) + 1)) fun u12 => some u12))
abbrev rm_X6_blows : Room := { frames := 0, cells := 0, slots := 0, locals := 0 }
def f_X6_blows_L2_B (N : Nat) (v1 : Int32) (rec : zS → Int32 → Option (zS)) (u : zS) (v2 : Int32) : Option (zS) := (if (u.1 1 0) ≤ v2 then some u else (og (inB (5 + v2) 279) <| (if (u.1 1 (Int32.toNatClampNeg (5 + v2))) = (-4) then (og (inB (5 + v2) 279) <| (olet (wI u 1 (Int32.toNatClampNeg (5 + v2)) (-4)) fun u8 => rec u8 (v2 + 1))) else (og (inB (5 + v2) 279) <| (og (inB (5 + v2) 279) <| (olet (wI u 1 (Int32.toNatClampNeg (5 + v2)) (((u.1 1 (Int32.toNatClampNeg (5 + v2))) + v1) - ((u.1 1 (Int32.toNatClampNeg (5 + v2))) + v1) / 8 * 8)) fun u6 => rec u6 (v2 + 1)))))))
def f_X6_blows_L2 (N : Nat) (v1 : Int32) : Nat → zS → Int32 → Option (zS)
  | 0, _, _ => none
  | n + 1, u, v2 => f_X6_blows_L2_B N v1 (f_X6_blows_L2 N v1 n) u v2
def f_X6_blows (N : Nat) (u : zS) (v1 : Int32) : Option (zS) := (ob (f_X6_blows_L2 N v1 N u 0) fun q9 => some q9)
abbrev rm_X6_beats : Room := { frames := 5, cells := 0, slots := 0, locals := 107 }
def f_X6_beats_L33_B (N : Nat) (v1 : Int32) (rec : zS → Int32 → Option (zS)) (u : zS) (v2 : Int32) : Option (zS) := (if v1 ≤ v2 then some u else (ob (f_X6_minds N u) fun r4 => (ob (f_X6_passes N r4) fun r5 => rec r5 (v2 + 1))))
def f_X6_beats_L33 (N : Nat) (v1 : Int32) : Nat → zS → Int32 → Option (zS)
  | 0, _, _ => none
  | n + 1, u, v2 => f_X6_beats_L33_B N v1 (f_X6_beats_L33 N v1 n) u v2
def f_X6_beats (N : Nat) (u : zS) (v1 : Int32) : Option (Int32 × zS) := (if (f_X6_in (Int32.toInt64 v1) 1 40) = 0 then some ((-1), u) else (if ((u.1 1 3) + v1) ≤ 9999 then (ob (f_X6_beats_L33 N v1 N u 0) fun q6 => (ob (f_X6_taken N q6) fun r7 => some (r7, q6))) else some ((-3), u)))
abbrev rm_X6_draught : Room := { frames := 2, cells := 0, slots := 0, locals := 44 }
def f_X6_draught (N : Nat) (u : zS) (v1 : Int32) : Option (Int32 × zS) := (if (f_X6_in (Int32.toInt64 v1) 1 7) = 0 then some ((-1), u) else (ob (f_X6_minds N u) fun r2 => (ob (f_X6_blows N r2 v1) fun r3 => (ob (f_X6_taken N r3) fun r4 => some (r4, r3)))))
abbrev rm_X6_leave : Room := { frames := 2, cells := 0, slots := 0, locals := 46 }
def f_X6_leave (N : Nat) (u : zS) (v1 : Int32) : Option (Int32 × zS) := (if (f_X6_isAngel u v1) = 0 then some ((-1), u) else (og (inB (5 + v1) 279) <| (olet (u.1 1 (Int32.toNatClampNeg (5 + v1))) fun w3 => (if w3 = (-4) then some ((-2), u) else (ob (f_X6_minds N u) fun r5 => (og (inB (5 + v1) 279) <| (olet (wI r5 1 (Int32.toNatClampNeg (5 + v1)) (-4)) fun u7 => some (w3, u7))))))))
abbrev rm_X6_come : Room := { frames := 2, cells := 0, slots := 0, locals := 46 }
def f_X6_come (N : Nat) (u : zS) (v1 : Int32) (v2 : Int32) : Option (Int32 × zS) := (if (f_X6_isAngel u v1) = 0 then some ((-1), u) else (if (f_X6_isPlace v2) = 0 then some ((-1), u) else (og (inB (5 + v1) 279) <| (if (u.1 1 (Int32.toNatClampNeg (5 + v1))) = (-4) then (ob (f_X6_taken N u) fun r5 => (if (f_X6_has r5 v2) = 0 then (ob (f_X6_minds N u) fun r7 => (og (inB (5 + v1) 279) <| (olet (wI r7 1 (Int32.toNatClampNeg (5 + v1)) v2) fun u9 => (ob (f_X6_taken N u9) fun r10 => (ob (f_X6_ones N r10) fun r11 => some (r11, u9)))))) else some ((-2), u))) else some ((-2), u)))))
abbrev rm_X6_drift : Room := { frames := 5, cells := 0, slots := 0, locals := 107 }
def f_X6_drift_L33_B (N : Nat) (v1 : Int32) (rec : zS → Int32 → Option (zS)) (u : zS) (v2 : Int32) : Option (zS) := (if v1 ≤ v2 then some u else (ob (f_X6_minds N u) fun r4 => (olet (wI r4 1 4 (Int64.toInt32 ((((Int32.toInt64 (r4.1 1 4)) * 1103515245) + 12345) - (((Int32.toInt64 (r4.1 1 4)) * 1103515245) + 12345) / 2147483648 * 2147483648))) fun u5 => (if (((u5.1 1 4) / 65536) - ((u5.1 1 4) / 65536) / 4 * 4) = 0 then (ob (f_X6_blows N u5 (1 + (((u5.1 1 4) / 128) - ((u5.1 1 4) / 128) / 7 * 7))) fun r8 => (ob (f_X6_passes N r8) fun r9 => rec r9 (v2 + 1))) else (ob (f_X6_passes N u5) fun r7 => rec r7 (v2 + 1))))))
def f_X6_drift_L33 (N : Nat) (v1 : Int32) : Nat → zS → Int32 → Option (zS)
  | 0, _, _ => none
  | n + 1, u, v2 => f_X6_drift_L33_B N v1 (f_X6_drift_L33 N v1 n) u v2
def f_X6_drift (N : Nat) (u : zS) (v1 : Int32) : Option (Int32 × zS) := (if (f_X6_in (Int32.toInt64 v1) 1 40) = 0 then some ((-1), u) else (if ((u.1 1 3) + v1) ≤ 9999 then (ob (f_X6_drift_L33 N v1 N u 0) fun q10 => (ob (f_X6_taken N q10) fun r11 => some (r11, q10))) else some ((-3), u)))
abbrev rm_X6_undo : Room := { frames := 1, cells := 0, slots := 0, locals := 24 }
def f_X6_undo (N : Nat) (u : zS) : Option (Int32 × zS) := (if (u.1 1 39) = 0 then some ((-4), u) else (olet (wI u 1 39 ((u.1 1 39) - 1)) fun u2 => (ob (f_X6_bring N u2 (40 + (10 * (u2.1 1 39))) 3 10) fun r3 => some ((r3.1 1 39), r3))))
abbrev rm_X6_seed : Room := { frames := 0, cells := 0, slots := 0, locals := 0 }
def f_X6_seed (u : zS) (v1 : Int32) : Int32 × zS := (if 0 ≤ v1 then (olet (wI u 1 4 v1) fun u2 => ((u.1 1 4), u2)) else ((-1), u))
abbrev rm_X6_goesBy : Room := { frames := 4, cells := 0, slots := 0, locals := 86 }
def f_X6_goesBy_L5_B (N : Nat) (u : zS) (v2 : Int32) (rec : Int32 → Int32 → Option (Int32)) (v3 : Int32) (v4 : Int32) : Option (Int32) := (if v2 ≤ v4 then some v3 else (og (neB (u.1 1 2)) <| (og (inB (23 + (((u.1 1 3) + v4) - ((u.1 1 3) + v4) / (u.1 1 2) * (u.1 1 2))) 279) <| (ob (f_X6_leadsOf u (u.1 1 (Int32.toNatClampNeg (23 + (((u.1 1 3) + v4) - ((u.1 1 3) + v4) / (u.1 1 2) * (u.1 1 2))))) v3) fun r4 => rec r4 (v4 + 1)))))
def f_X6_goesBy_L5 (N : Nat) (u : zS) (v2 : Int32) : Nat → Int32 → Int32 → Option (Int32)
  | 0, _, _ => none
  | n + 1, v3, v4 => f_X6_goesBy_L5_B N u v2 (f_X6_goesBy_L5 N u v2 n) v3 v4
def f_X6_goesBy (N : Nat) (u : zS) (v1 : Int32) (v2 : Int32) : Option (Int32) := (ob (f_X6_goesBy_L5 N u v2 N v1 0) fun q5 => some q5)
abbrev rm_X6_ringOf : Room := { frames := 5, cells := 0, slots := 0, locals := 110 }
def f_X6_ringOf_L14_B (N : Nat) (u : zS) (v1 : Int32) (rec : Int32 → Int32 → Option (Int32)) (v2 : Int32) (v3 : Int32) : Option (Int32) := (if v3 = v1 then some v2 else (ob (f_X6_goesBy N u v3 (u.1 1 2)) fun r3 => rec (v2 + 1) r3))
def f_X6_ringOf_L14 (N : Nat) (u : zS) (v1 : Int32) : Nat → Int32 → Int32 → Option (Int32)
  | 0, _, _ => none
  | n + 1, v2, v3 => f_X6_ringOf_L14_B N u v1 (f_X6_ringOf_L14 N u v1 n) v2 v3
def f_X6_ringOf (N : Nat) (u : zS) (v1 : Int32) : Option (Int32) := (ob (f_X6_goesBy N u v1 (u.1 1 2)) fun r1 => (ob (f_X6_ringOf_L14 N u v1 N 1 r1) fun q4 => some q4))
abbrev rm_X6_behind : Room := { frames := 6, cells := 0, slots := 0, locals := 133 }
def f_X6_behind_L38_B (N : Nat) (u : zS) (v2 : Int32) (v4 : Int32) (rec : Int32 → Int32 → Option (Int32)) (v3 : Int32) (v5 : Int32) : Option (Int32) := (if v4 ≤ v5 then some v3 else (ob (f_X6_goesBy N u v3 (u.1 1 2)) fun r7 => rec r7 (v5 + 1)))
def f_X6_behind_L38 (N : Nat) (u : zS) (v2 : Int32) (v4 : Int32) : Nat → Int32 → Int32 → Option (Int32)
  | 0, _, _ => none
  | n + 1, v3, v5 => f_X6_behind_L38_B N u v2 v4 (f_X6_behind_L38 N u v2 v4 n) v3 v5
def f_X6_behind (N : Nat) (u : zS) (v1 : Int32) (v2 : Int32) : Option (Int32) := (if v1 = (-4) then some v1 else (if (u.1 1 2) = 0 then some v1 else (og (neB (u.1 1 2)) <| (ob (f_X6_ringOf N u v1) fun r4 => (og (neB r4) <| (ob (f_X6_behind_L38 N u v2 ((v2 / (u.1 1 2)) - (v2 / (u.1 1 2)) / r4 * r4) N v1 0) fun q8 => (og (neB (u.1 1 2)) <| (ob (f_X6_goesBy N u q8 (v2 - v2 / (u.1 1 2) * (u.1 1 2))) fun r10 => some r10))))))))
abbrev rm_X6_isTime : Room := { frames := 1, cells := 0, slots := 0, locals := 25 }
def f_X6_isTime (v0 : Int32) : Int32 := (f_X6_in (Int32.toInt64 v0) 0 2000000000)
abbrev rm_X6_ahead : Room := { frames := 7, cells := 0, slots := 0, locals := 158 }
def f_X6_ahead (N : Nat) (u : zS) (v1 : Int32) (v2 : Int32) : Option (Int32) := (if (f_X6_isAngel u v1) = 0 then some (-1) else (if (f_X6_isTime v2) = 0 then some (-1) else (og (inB (5 + v1) 279) <| (ob (f_X6_behind N u (u.1 1 (Int32.toNatClampNeg (5 + v1))) v2) fun r4 => some r4))))
abbrev rm_X6_then : Room := { frames := 7, cells := 0, slots := 0, locals := 158 }
def f_X6_then_J76 (N : Nat) (u : zS) (v1 : Int32) (v2 : Int32) (v3 : Int32) (rec : Int32 → Int32 → Int32 → Option (Int32 × Int32)) (v5 : Int32) (v6 : Int32) (v7 : Int32) (s0 : Int32) : Option (Int32 × Int32) := (if v7 = (-4) then rec s0 (v5 ||| 0) (v6 + 1) else (olet (v5 ||| (1 <<< (v7 &&& (31 : Int32)))) fun w9 => rec s0 w9 (v6 + 1)))
def f_X6_then_L36_B (N : Nat) (u : zS) (v1 : Int32) (v2 : Int32) (v3 : Int32) (rec : Int32 → Int32 → Int32 → Option (Int32 × Int32)) (v4 : Int32) (v5 : Int32) (v6 : Int32) : Option (Int32 × Int32) := (if (u.1 1 0) ≤ v6 then some (v4, v5) else (og (inB (5 + v6) 279) <| (ob (f_X6_behind N u (u.1 1 (Int32.toNatClampNeg (5 + v6))) v2) fun r6 => (if r6 = v1 then f_X6_then_J76 N u v1 v2 v3 rec v5 v6 r6 v6 else f_X6_then_J76 N u v1 v2 v3 rec v5 v6 r6 v4))))
def f_X6_then_L36 (N : Nat) (u : zS) (v1 : Int32) (v2 : Int32) (v3 : Int32) : Nat → Int32 → Int32 → Int32 → Option (Int32 × Int32)
  | 0, _, _, _ => none
  | n + 1, v4, v5, v6 => f_X6_then_L36_B N u v1 v2 v3 (f_X6_then_L36 N u v1 v2 v3 n) v4 v5 v6
def f_X6_then (N : Nat) (u : zS) (v1 : Int32) (v2 : Int32) (v3 : Int32) : Option (Int32) := (if (f_X6_isPlace v1) = 0 then some (-1) else (if (f_X6_isTime v2) = 0 then some (-1) else (if (f_X6_in (Int32.toInt64 v3) 0 1) = 0 then some (-1) else (ob (f_X6_then_L36 N u v1 v2 v3 N (-4) 0 0) fun q10 => (if v3 = 0 then some q10.1 else (ob (f_X6_seenOf N q10.2 v1) fun r12 => some r12))))))
abbrev rm_X6_back : Room := { frames := 6, cells := 0, slots := 0, locals := 133 }
def f_X6_back_J83 (N : Nat) (u : zS) (v1 : Int32) (v2 : Int32) (rec : Int32 → Int32 → Option (Int32)) (v3 : Int32) (v4 : Int32) (s0 : Int32) : Option (Int32) := (if v3 = 0 then rec 0 (v4 + 1) else (if s0 = 0 then rec 1 (v4 + 1) else (og (inB (5 + v4) 279) <| (ob (f_X6_ringOf N u (u.1 1 (Int32.toNatClampNeg (5 + v4)))) fun r10 => (og (neB r10) <| (if (v2 - v2 / r10 * r10) = 0 then rec 1 (v4 + 1) else rec 0 (v4 + 1)))))))
def f_X6_back_J82 (N : Nat) (u : zS) (v1 : Int32) (v2 : Int32) (rec : Int32 → Int32 → Option (Int32)) (v3 : Int32) (v4 : Int32) : Option (Int32) := f_X6_back_J83 N u v1 v2 rec v3 v4 0
def f_X6_back_J78 (N : Nat) (u : zS) (v1 : Int32) (v2 : Int32) (rec : Int32 → Int32 → Option (Int32)) (v3 : Int32) (v4 : Int32) : Option (Int32) := f_X6_back_J83 N u v1 v2 rec v3 v4 1
def f_X6_back_L42_B (N : Nat) (u : zS) (v1 : Int32) (v2 : Int32) (rec : Int32 → Int32 → Option (Int32)) (v3 : Int32) (v4 : Int32) : Option (Int32) := (if (u.1 1 0) ≤ v4 then some v3 else (og (inB (5 + v4) 279) <| (if (u.1 1 (Int32.toNatClampNeg (5 + v4))) = (-4) then f_X6_back_J82 N u v1 v2 rec v3 v4 else (if v1 = (-1) then f_X6_back_J78 N u v1 v2 rec v3 v4 else (if v4 = v1 then f_X6_back_J78 N u v1 v2 rec v3 v4 else f_X6_back_J82 N u v1 v2 rec v3 v4)))))
def f_X6_back_L42 (N : Nat) (u : zS) (v1 : Int32) (v2 : Int32) : Nat → Int32 → Int32 → Option (Int32)
  | 0, _, _ => none
  | n + 1, v3, v4 => f_X6_back_L42_B N u v1 v2 (f_X6_back_L42 N u v1 v2 n) v3 v4
def f_X6_back_L30_B (N : Nat) (u : zS) (v1 : Int32) (rec : Int32 → Int32 → Option (Int32)) (v2 : Int32) (v3 : Int32) : Option (Int32) := (if v3 = 0 then (ob (f_X6_back_L42 N u v1 (v2 + 1) N 1 0) fun q15 => rec (v2 + 1) q15) else some v2)
def f_X6_back_L30 (N : Nat) (u : zS) (v1 : Int32) : Nat → Int32 → Int32 → Option (Int32)
  | 0, _, _ => none
  | n + 1, v2, v3 => f_X6_back_L30_B N u v1 (f_X6_back_L30 N u v1 n) v2 v3
def f_X6_back_J15 (N : Nat) (u : zS) (v1 : Int32) : Option (Int32) := (if (u.1 1 2) = 0 then some 0 else (ob (f_X6_back_L30 N u v1 N 0 0) fun q16 => some (q16 * (u.1 1 2))))
def f_X6_back (N : Nat) (u : zS) (v1 : Int32) : Option (Int32) := (if v1 = (-1) then f_X6_back_J15 N u v1 else (if (f_X6_isAngel u v1) = 0 then some (-1) else f_X6_back_J15 N u v1))
abbrev rm_X6_been : Room := { frames := 6, cells := 0, slots := 0, locals := 133 }
def f_X6_been_L61_B (N : Nat) (u : zS) (v4 : Int32) (rec : Int32 → Int32 → Int32 → Option (Int32)) (v2 : Int32) (v3 : Int32) (v5 : Int32) : Option (Int32) := (if v4 ≤ v5 then some v3 else (og (neB (u.1 1 2)) <| (og (inB (23 + (((u.1 1 3) + v5) - ((u.1 1 3) + v5) / (u.1 1 2) * (u.1 1 2))) 279) <| (ob (f_X6_leadsOf u (u.1 1 (Int32.toNatClampNeg (23 + (((u.1 1 3) + v5) - ((u.1 1 3) + v5) / (u.1 1 2) * (u.1 1 2))))) v2) fun r11 => (olet (v3 ||| (1 <<< (r11 &&& (31 : Int32)))) fun w12 => rec r11 w12 (v5 + 1))))))
def f_X6_been_L61 (N : Nat) (u : zS) (v4 : Int32) : Nat → Int32 → Int32 → Int32 → Option (Int32)
  | 0, _, _, _ => none
  | n + 1, v2, v3, v5 => f_X6_been_L61_B N u v4 (f_X6_been_L61 N u v4 n) v2 v3 v5
def f_X6_been_J56 (N : Nat) (u : zS) (v2 : Int32) (v3 : Int32) (s0 : Int32) : Option (Int32) := (ob (f_X6_been_L61 N u s0 N v2 v3 0) fun q13 => some q13)
def f_X6_been (N : Nat) (u : zS) (v1 : Int32) : Option (Int32) := (if (f_X6_isAngel u v1) = 0 then some (-1) else (og (inB (5 + v1) 279) <| (olet (u.1 1 (Int32.toNatClampNeg (5 + v1))) fun w3 => (if w3 = (-4) then some 0 else (olet (1 <<< (w3 &&& (31 : Int32))) fun w5 => (if (u.1 1 2) = 0 then f_X6_been_J56 N u w3 w5 0 else (ob (f_X6_ringOf N u w3) fun r7 => f_X6_been_J56 N u w3 w5 (r7 * (u.1 1 2)))))))))
abbrev rm_X6_ledBy : Room := { frames := 4, cells := 0, slots := 0, locals := 86 }
def f_X6_ledBy_L5_B (N : Nat) (u : zS) (v1 : Int32) (v2 : Int32) (rec : Int32 → Int32 → Option (Int32)) (v3 : Int32) (v4 : Int32) : Option (Int32) := (if 8 ≤ v4 then some v3 else (if (f_X6_has v2 v4) = 0 then rec (v3 ||| 0) (v4 + 1) else (ob (f_X6_leadsOf u v1 v4) fun r3 => (olet (v3 ||| (1 <<< (r3 &&& (31 : Int32)))) fun w4 => rec w4 (v4 + 1)))))
def f_X6_ledBy_L5 (N : Nat) (u : zS) (v1 : Int32) (v2 : Int32) : Nat → Int32 → Int32 → Option (Int32)
  | 0, _, _ => none
  | n + 1, v3, v4 => f_X6_ledBy_L5_B N u v1 v2 (f_X6_ledBy_L5 N u v1 v2 n) v3 v4
def f_X6_ledBy (N : Nat) (u : zS) (v1 : Int32) (v2 : Int32) : Option (Int32) := (ob (f_X6_ledBy_L5 N u v1 v2 N 0 0) fun q5 => some q5)
abbrev rm_X6_laysFar : Room := { frames := 5, cells := 0, slots := 0, locals := 110 }
def f_X6_laysFar_L2_B (N : Nat) (v1 : Int32) (rec : zS → Int32 → Option (zS)) (u : zS) (v2 : Int32) : Option (zS) := (if 256 ≤ v2 then some u else (og (inB v2 256) <| (olet (wI u 7 (Int32.toNatClampNeg v2) 1000000) fun u3 => rec u3 (v2 + 1))))
def f_X6_laysFar_L2 (N : Nat) (v1 : Int32) : Nat → zS → Int32 → Option (zS)
  | 0, _, _ => none
  | n + 1, u, v2 => f_X6_laysFar_L2_B N v1 (f_X6_laysFar_L2 N v1 n) u v2
def f_X6_laysFar_L49_B (N : Nat) (v3 : Int32) (rec : zS → Int32 → Int32 → Option (Int32 × zS)) (u : zS) (v2 : Int32) (v4 : Int32) : Option (Int32 × zS) := (if (u.1 1 1) ≤ v4 then some (v2, u) else (og (inB v3 256) <| (ob (f_X6_ledBy N u v4 (u.1 8 (Int32.toNatClampNeg v3))) fun r11 => (og (inB r11 256) <| (if (u.1 7 (Int32.toNatClampNeg r11)) = 1000000 then (og (inB v3 256) <| (og (inB (u.1 8 (Int32.toNatClampNeg v3)) 256) <| (og (inB r11 256) <| (olet (wI u 7 (Int32.toNatClampNeg r11) ((u.1 7 (Int32.toNatClampNeg (u.1 8 (Int32.toNatClampNeg v3)))) + 1)) fun u17 => (og (inB v2 256) <| (olet (wI u17 8 (Int32.toNatClampNeg v2) r11) fun u19 => rec u19 (v2 + 1) (v4 + 1))))))) else rec u v2 (v4 + 1))))))
def f_X6_laysFar_L49 (N : Nat) (v3 : Int32) : Nat → zS → Int32 → Int32 → Option (Int32 × zS)
  | 0, _, _, _ => none
  | n + 1, u, v2, v4 => f_X6_laysFar_L49_B N v3 (f_X6_laysFar_L49 N v3 n) u v2 v4
def f_X6_laysFar_L41_B (N : Nat) (rec : zS → Int32 → Int32 → Option (Int32 × zS)) (u : zS) (v2 : Int32) (v3 : Int32) : Option (Int32 × zS) := (if v2 ≤ v3 then some (v2, u) else (ob (f_X6_laysFar_L49 N v3 N u v2 0) fun q20 => rec q20.2 q20.1 (v3 + 1)))
def f_X6_laysFar_L41 (N : Nat) : Nat → zS → Int32 → Int32 → Option (Int32 × zS)
  | 0, _, _, _ => none
  | n + 1, u, v2, v3 => f_X6_laysFar_L41_B N (f_X6_laysFar_L41 N n) u v2 v3
def f_X6_laysFar (N : Nat) (u : zS) (v1 : Int32) : Option (Int32 × zS) := (ob (f_X6_laysFar_L2 N v1 N u 0) fun q4 => (olet (wI q4 8 0 v1) fun u5 => (og (inB v1 256) <| (olet (wI u5 7 (Int32.toNatClampNeg v1) 0) fun u7 => (ob (f_X6_laysFar_L41 N N u7 1 0) fun q21 => some (q21.1, q21.2))))))
abbrev rm_X6_laysLeft : Room := { frames := 5, cells := 0, slots := 0, locals := 110 }
def f_X6_laysLeft_L2_B (N : Nat) (v1 : Int32) (rec : zS → Int32 → Option (zS)) (u : zS) (v2 : Int32) : Option (zS) := (if 256 ≤ v2 then some u else (if v2 = v1 then (og (inB v2 256) <| (olet (wI u 9 (Int32.toNatClampNeg v2) 0) fun u6 => rec u6 (v2 + 1))) else (og (inB v2 256) <| (olet (wI u 9 (Int32.toNatClampNeg v2) 1000000) fun u4 => rec u4 (v2 + 1)))))
def f_X6_laysLeft_L2 (N : Nat) (v1 : Int32) : Nat → zS → Int32 → Option (zS)
  | 0, _, _ => none
  | n + 1, u, v2 => f_X6_laysLeft_L2_B N v1 (f_X6_laysLeft_L2 N v1 n) u v2
def f_X6_laysLeft_L52_B (N : Nat) (v3 : Int32) (rec : zS → Int32 → Int32 → Option (Int32 × zS)) (u : zS) (v2 : Int32) (v4 : Int32) : Option (Int32 × zS) := (if (u.1 1 1) ≤ v4 then some (v2, u) else (ob (f_X6_ledBy N u v4 v3) fun r11 => (og (inB r11 256) <| (olet ((u.1 9 (Int32.toNatClampNeg r11)) + 1) fun w13 => (og (inB v3 256) <| (if (u.1 9 (Int32.toNatClampNeg v3)) ≤ w13 then rec u v2 (v4 + 1) else (og (inB v3 256) <| (olet (wI u 9 (Int32.toNatClampNeg v3) w13) fun u17 => rec u17 1 (v4 + 1)))))))))
def f_X6_laysLeft_L52 (N : Nat) (v3 : Int32) : Nat → zS → Int32 → Int32 → Option (Int32 × zS)
  | 0, _, _, _ => none
  | n + 1, u, v2, v4 => f_X6_laysLeft_L52_B N v3 (f_X6_laysLeft_L52 N v3 n) u v2 v4
def f_X6_laysLeft_L42_B (N : Nat) (rec : zS → Int32 → Int32 → Option (Int32 × zS)) (u : zS) (v2 : Int32) (v3 : Int32) : Option (Int32 × zS) := (if 256 ≤ v3 then some (v2, u) else (ob (f_X6_laysLeft_L52 N v3 N u v2 0) fun q18 => rec q18.2 q18.1 (v3 + 1)))
def f_X6_laysLeft_L42 (N : Nat) : Nat → zS → Int32 → Int32 → Option (Int32 × zS)
  | 0, _, _, _ => none
  | n + 1, u, v2, v3 => f_X6_laysLeft_L42_B N (f_X6_laysLeft_L42 N n) u v2 v3
def f_X6_laysLeft_L34_B (N : Nat) (rec : zS → Int32 → Option (zS)) (u : zS) (v2 : Int32) : Option (zS) := (if v2 = 0 then some u else (ob (f_X6_laysLeft_L42 N N u 0 0) fun q19 => rec q19.2 q19.1))
def f_X6_laysLeft_L34 (N : Nat) : Nat → zS → Int32 → Option (zS)
  | 0, _, _ => none
  | n + 1, u, v2 => f_X6_laysLeft_L34_B N (f_X6_laysLeft_L34 N n) u v2
def f_X6_laysLeft (N : Nat) (u : zS) (v1 : Int32) : Option (zS) := (ob (f_X6_laysLeft_L2 N v1 N u 0) fun q7 => (ob (f_X6_laysLeft_L34 N N q7 1) fun q20 => some q20))
abbrev rm_X6_shortest : Room := { frames := 6, cells := 0, slots := 0, locals := 135 }
def f_X6_shortest_L82_B (N : Nat) (u : zS) (v2 : Int32) (v3 : Int32) (v4 : Int32) (v6 : Int32) (rec : Int32 → Option (Int32)) (v5 : Int32) : Option (Int32) := (ob (f_X6_ledBy N u v5 v3) fun r12 => (og (inB r12 256) <| (if (u.1 9 (Int32.toNatClampNeg r12)) = ((v4 - v6) - 1) then some v5 else rec (v5 + 1))))
def f_X6_shortest_L82 (N : Nat) (u : zS) (v2 : Int32) (v3 : Int32) (v4 : Int32) (v6 : Int32) : Nat → Int32 → Option (Int32)
  | 0, _ => none
  | n + 1, v5 => f_X6_shortest_L82_B N u v2 v3 v4 v6 (f_X6_shortest_L82 N u v2 v3 v4 v6 n) v5
def f_X6_shortest_L73_B (N : Nat) (u : zS) (v2 : Int32) (v4 : Int32) (rec : Int32 → Int32 → Int32 → Option (Int32)) (v3 : Int32) (v5 : Int32) (v6 : Int32) : Option (Int32) := (if v2 < v6 then some v5 else (ob (f_X6_shortest_L82 N u v2 v3 v4 v6 N 0) fun q15 => (ob (f_X6_ledBy N u q15 v3) fun r16 => rec r16 q15 (v6 + 1))))
def f_X6_shortest_L73 (N : Nat) (u : zS) (v2 : Int32) (v4 : Int32) : Nat → Int32 → Int32 → Int32 → Option (Int32)
  | 0, _, _, _ => none
  | n + 1, v3, v5, v6 => f_X6_shortest_L73_B N u v2 v4 (f_X6_shortest_L73 N u v2 v4 n) v3 v5 v6
def f_X6_shortest (N : Nat) (u : zS) (v1 : Int32) (v2 : Int32) : Option (Int32 × zS) := (if (f_X6_in (Int32.toInt64 v1) 0 255) = 0 then some ((-1), u) else (if (-1) ≤ v2 then (ob (f_X6_laysLeft N u v1) fun r3 => (ob (f_X6_taken N r3) fun r4 => (og (inB r4 256) <| (if (r3.1 9 (Int32.toNatClampNeg r4)) < 1000000 then (og (inB r4 256) <| (olet (r3.1 9 (Int32.toNatClampNeg r4)) fun w8 => (if 0 ≤ v2 then (if v2 < w8 then (ob (f_X6_shortest_L73 N r3 v2 w8 N r4 0 0) fun q17 => some (q17, r3)) else some ((-4), r3)) else some (w8, r3)))) else some ((-4), r3))))) else some ((-1), u)))
abbrev rm_X6_sorts : Room := { frames := 6, cells := 0, slots := 0, locals := 135 }
def f_X6_sorts (N : Nat) (u : zS) : Option (Int32 × zS) := (ob (f_X6_taken N u) fun r1 => (ob (f_X6_laysFar N u r1) fun r2 => some (r2.1, r2.2)))
abbrev rm_X6_apartBy : Room := { frames := 0, cells := 0, slots := 0, locals := 0 }
def f_X6_apartBy (v0 : Int32) (v1 : Int32) : Int32 := (if v1 ≤ v0 then (if (v0 - v1) ≤ 4 then (v0 - v1) else (8 - (v0 - v1))) else (if (v1 - v0) ≤ 4 then (v1 - v0) else (8 - (v1 - v0))))
abbrev rm_X6_apart : Room := { frames := 4, cells := 0, slots := 0, locals := 86 }
def f_X6_apart_L65_B (N : Nat) (v1 : Int32) (v2 : Int32) (v3 : Int32) (rec : zS → Int32 → Option (zS)) (u : zS) (v4 : Int32) : Option (zS) := (if 64 ≤ v4 then some u else (og (inB v4 64) <| (olet (wI u 10 (Int32.toNatClampNeg v4) 1000000) fun u11 => rec u11 (v4 + 1))))
def f_X6_apart_L65 (N : Nat) (v1 : Int32) (v2 : Int32) (v3 : Int32) : Nat → zS → Int32 → Option (zS)
  | 0, _, _ => none
  | n + 1, u, v4 => f_X6_apart_L65_B N v1 v2 v3 (f_X6_apart_L65 N v1 v2 v3 n) u v4
def f_X6_apart_L209_B (N : Nat) (v3 : Int32) (v5 : Int32) (v6 : Int32) (v7 : Int32) (v8 : Int32) (rec : zS → Int32 → Int32 → Option (Int32 × zS)) (u : zS) (v4 : Int32) (v10 : Int32) : Option (Int32 × zS) := (if (u.1 1 1) ≤ v10 then some (v4, u) else (ob (f_X6_leadsOf u v10 (v8 / 8)) fun r25 => (ob (f_X6_leadsOf u v10 (v8 - v8 / 8 * 8)) fun r26 => (olet ((8 * r25) + r26) fun w27 => (og (inB w27 64) <| (if (u.1 10 (Int32.toNatClampNeg w27)) = 1000000 then (og (inB v8 64) <| (og (inB w27 64) <| (olet (wI u 10 (Int32.toNatClampNeg w27) ((u.1 10 (Int32.toNatClampNeg v8)) + 1)) fun u32 => (og (inB v4 256) <| (olet (wI u32 8 (Int32.toNatClampNeg v4) w27) fun u34 => rec u34 (v4 + 1) (v10 + 1)))))) else rec u v4 (v10 + 1)))))))
def f_X6_apart_L209 (N : Nat) (v3 : Int32) (v5 : Int32) (v6 : Int32) (v7 : Int32) (v8 : Int32) : Nat → zS → Int32 → Int32 → Option (Int32 × zS)
  | 0, _, _, _ => none
  | n + 1, u, v4, v10 => f_X6_apart_L209_B N v3 v5 v6 v7 v8 (f_X6_apart_L209 N v3 v5 v6 v7 v8 n) u v4 v10
def f_X6_apart_J204 (N : Nat) (v3 : Int32) (rec : zS → Int32 → Int32 → Int32 → Int32 → Option (Int32 × Int32 × zS)) (u : zS) (v4 : Int32) (v5 : Int32) (v7 : Int32) (v8 : Int32) (s0 : Int32) : Option (Int32 × Int32 × zS) := (ob (f_X6_apart_L209 N v3 v5 s0 v7 v8 N u v4 0) fun q35 => rec q35.2 q35.1 v5 s0 (v7 + 1))
def f_X6_apart_J188 (N : Nat) (v3 : Int32) (rec : zS → Int32 → Int32 → Int32 → Int32 → Option (Int32 × Int32 × zS)) (u : zS) (v4 : Int32) (v6 : Int32) (v7 : Int32) (v8 : Int32) (v9 : Int32) (s0 : Int32) : Option (Int32 × Int32 × zS) := (if v9 ≤ v6 then f_X6_apart_J204 N v3 rec u v4 s0 v7 v8 v6 else f_X6_apart_J204 N v3 rec u v4 s0 v7 v8 v9)
def f_X6_apart_L138_B (N : Nat) (v3 : Int32) (rec : zS → Int32 → Int32 → Int32 → Int32 → Option (Int32 × Int32 × zS)) (u : zS) (v4 : Int32) (v5 : Int32) (v6 : Int32) (v7 : Int32) : Option (Int32 × Int32 × zS) := (if v4 ≤ v7 then some (v5, v6, u) else (og (inB v7 256) <| (olet (u.1 8 (Int32.toNatClampNeg v7)) fun w20 => (olet (f_X6_apartBy (w20 / 8) (w20 - w20 / 8 * 8)) fun w21 => (if w21 ≤ v6 then f_X6_apart_J188 N v3 rec u v4 v6 v7 w20 w21 v5 else (og (inB w20 64) <| f_X6_apart_J188 N v3 rec u v4 v6 v7 w20 w21 (u.1 10 (Int32.toNatClampNeg w20))))))))
def f_X6_apart_L138 (N : Nat) (v3 : Int32) : Nat → zS → Int32 → Int32 → Int32 → Int32 → Option (Int32 × Int32 × zS)
  | 0, _, _, _, _, _ => none
  | n + 1, u, v4, v5, v6, v7 => f_X6_apart_L138_B N v3 (f_X6_apart_L138 N v3 n) u v4 v5 v6 v7
def f_X6_apart (N : Nat) (u : zS) (v1 : Int32) (v2 : Int32) (v3 : Int32) : Option (Int32 × zS) := (if (f_X6_isAngel u v1) = 0 then some ((-1), u) else (if (f_X6_isAngel u v2) = 0 then some ((-1), u) else (if v1 = v2 then some ((-1), u) else (if (f_X6_in (Int32.toInt64 v3) 0 1) = 0 then some ((-1), u) else (og (inB (5 + v1) 279) <| (if (u.1 1 (Int32.toNatClampNeg (5 + v1))) = (-4) then some ((-2), u) else (og (inB (5 + v2) 279) <| (if (u.1 1 (Int32.toNatClampNeg (5 + v2))) = (-4) then some ((-2), u) else (ob (f_X6_apart_L65 N v1 v2 v3 N u 0) fun q12 => (og (inB (5 + v1) 279) <| (og (inB (5 + v2) 279) <| (olet (wI q12 8 0 ((8 * (q12.1 1 (Int32.toNatClampNeg (5 + v1)))) + (q12.1 1 (Int32.toNatClampNeg (5 + v2))))) fun u15 => (og (inB (u15.1 8 0) 64) <| (olet (wI u15 10 (Int32.toNatClampNeg (u15.1 8 0)) 0) fun u17 => (ob (f_X6_apart_L138 N v3 N u17 1 1000000 (-1) 0) fun q37 => (if v3 = 0 then some (q37.1, q37.2.2) else some (q37.2.1, q37.2.2)))))))))))))))))
abbrev rm_X6_chance : Room := { frames := 4, cells := 0, slots := 0, locals := 86 }
def f_X6_chance_L71_B (N : Nat) (v1 : Int32) (v2 : Int32) (v3 : Int32) (v4 : Int32) (v5 : Int64) (rec : zS → Int32 → Option (zS)) (u : zS) (v7 : Int32) : Option (zS) := (if 8 ≤ v7 then some u else (og (inB (5 + v1) 279) <| (if v7 = (u.1 1 (Int32.toNatClampNeg (5 + v1))) then (og (inB v7 8) <| (olet (wL u 11 (Int32.toNatClampNeg v7) 1) fun u14 => rec u14 (v7 + 1))) else (og (inB v7 8) <| (olet (wL u 11 (Int32.toNatClampNeg v7) 0) fun u12 => rec u12 (v7 + 1))))))
def f_X6_chance_L71 (N : Nat) (v1 : Int32) (v2 : Int32) (v3 : Int32) (v4 : Int32) (v5 : Int64) : Nat → zS → Int32 → Option (zS)
  | 0, _, _ => none
  | n + 1, u, v7 => f_X6_chance_L71_B N v1 v2 v3 v4 v5 (f_X6_chance_L71 N v1 v2 v3 v4 v5 n) u v7
def f_X6_chance_L133_B (N : Nat) (v2 : Int32) (v3 : Int32) (v4 : Int32) (v5 : Int64) (v7 : Int32) (rec : zS → Int32 → Option (zS)) (u : zS) (v8 : Int32) : Option (zS) := (if 8 ≤ v8 then some u else (og (inB v8 8) <| (olet (wL u 12 (Int32.toNatClampNeg v8) 0) fun u20 => rec u20 (v8 + 1))))
def f_X6_chance_L133 (N : Nat) (v2 : Int32) (v3 : Int32) (v4 : Int32) (v5 : Int64) (v7 : Int32) : Nat → zS → Int32 → Option (zS)
  | 0, _, _ => none
  | n + 1, u, v8 => f_X6_chance_L133_B N v2 v3 v4 v5 v7 (f_X6_chance_L133 N v2 v3 v4 v5 v7 n) u v8
def f_X6_chance_L167_B (N : Nat) (v2 : Int32) (v3 : Int32) (v4 : Int32) (v5 : Int64) (v7 : Int32) (v8 : Int32) (rec : zS → Int32 → Option (zS)) (u : zS) (v9 : Int32) : Option (zS) := (if (u.1 1 1) ≤ v9 then some u else (ob (f_X6_leadsOf u v9 v8) fun r24 => (og (inB r24 8) <| (og (inB v8 8) <| (og (inB r24 8) <| (olet (wL u 12 (Int32.toNatClampNeg r24) ((u.2 12 (Int32.toNatClampNeg r24)) + (u.2 11 (Int32.toNatClampNeg v8)))) fun u28 => rec u28 (v9 + 1)))))))
def f_X6_chance_L167 (N : Nat) (v2 : Int32) (v3 : Int32) (v4 : Int32) (v5 : Int64) (v7 : Int32) (v8 : Int32) : Nat → zS → Int32 → Option (zS)
  | 0, _, _ => none
  | n + 1, u, v9 => f_X6_chance_L167_B N v2 v3 v4 v5 v7 v8 (f_X6_chance_L167 N v2 v3 v4 v5 v7 v8 n) u v9
def f_X6_chance_L157_B (N : Nat) (v2 : Int32) (v3 : Int32) (v4 : Int32) (v5 : Int64) (v7 : Int32) (rec : zS → Int32 → Option (zS)) (u : zS) (v8 : Int32) : Option (zS) := (if 8 ≤ v8 then some u else (ob (f_X6_chance_L167 N v2 v3 v4 v5 v7 v8 N u 0) fun q29 => rec q29 (v8 + 1)))
def f_X6_chance_L157 (N : Nat) (v2 : Int32) (v3 : Int32) (v4 : Int32) (v5 : Int64) (v7 : Int32) : Nat → zS → Int32 → Option (zS)
  | 0, _, _ => none
  | n + 1, u, v8 => f_X6_chance_L157_B N v2 v3 v4 v5 v7 (f_X6_chance_L157 N v2 v3 v4 v5 v7 n) u v8
def f_X6_chance_L216_B (N : Nat) (v2 : Int32) (v3 : Int32) (v4 : Int32) (v5 : Int64) (v7 : Int32) (rec : zS → Int32 → Option (zS)) (u : zS) (v8 : Int32) : Option (zS) := (if 8 ≤ v8 then some u else (og (inB v8 8) <| (og (inB v8 8) <| (olet (wL u 11 (Int32.toNatClampNeg v8) (u.2 12 (Int32.toNatClampNeg v8))) fun u34 => rec u34 (v8 + 1)))))
def f_X6_chance_L216 (N : Nat) (v2 : Int32) (v3 : Int32) (v4 : Int32) (v5 : Int64) (v7 : Int32) : Nat → zS → Int32 → Option (zS)
  | 0, _, _ => none
  | n + 1, u, v8 => f_X6_chance_L216_B N v2 v3 v4 v5 v7 (f_X6_chance_L216 N v2 v3 v4 v5 v7 n) u v8
def f_X6_chance_L112_B (N : Nat) (v2 : Int32) (v3 : Int32) (v4 : Int32) (rec : zS → Int64 → Int32 → Option (Int64 × zS)) (u : zS) (v5 : Int64) (v7 : Int32) : Option (Int64 × zS) := (if v3 ≤ v7 then some (v5, u) else (olet (v5 * (Int32.toInt64 (u.1 1 1))) fun w17 => (ob (f_X6_chance_L133 N v2 v3 v4 w17 v7 N u 0) fun q21 => (ob (f_X6_chance_L157 N v2 v3 v4 w17 v7 N q21 0) fun q30 => (ob (f_X6_chance_L216 N v2 v3 v4 w17 v7 N q30 0) fun q35 => rec q35 w17 (v7 + 1))))))
def f_X6_chance_L112 (N : Nat) (v2 : Int32) (v3 : Int32) (v4 : Int32) : Nat → zS → Int64 → Int32 → Option (Int64 × zS)
  | 0, _, _, _ => none
  | n + 1, u, v5, v7 => f_X6_chance_L112_B N v2 v3 v4 (f_X6_chance_L112 N v2 v3 v4 n) u v5 v7
def f_X6_chance_L261_B (N : Nat) (u : zS) (v2 : Int32) (v4 : Int32) (v5 : Int64) (rec : Int64 → Int64 → Option (Int64)) (v7 : Int64) (v9 : Int64) : Option (Int64) := (if (lg_cmp v9 0) = 0 then some v7 else (og (neL v9) <| (olet (v7 - v7 / v9 * v9) fun w41 => rec v9 w41)))
def f_X6_chance_L261 (N : Nat) (u : zS) (v2 : Int32) (v4 : Int32) (v5 : Int64) : Nat → Int64 → Int64 → Option (Int64)
  | 0, _, _ => none
  | n + 1, v7, v9 => f_X6_chance_L261_B N u v2 v4 v5 (f_X6_chance_L261 N u v2 v4 v5 n) v7 v9
def f_X6_chance (N : Nat) (u : zS) (v1 : Int32) (v2 : Int32) (v3 : Int32) (v4 : Int32) : Option (Int32 × zS) := (if (f_X6_isAngel u v1) = 0 then some ((-1), u) else (if (f_X6_isPlace v2) = 0 then some ((-1), u) else (if (f_X6_in (Int32.toInt64 v3) 0 8) = 0 then some ((-1), u) else (if (f_X6_in (Int32.toInt64 v4) 0 1) = 0 then some ((-1), u) else (og (inB (5 + v1) 279) <| (if (u.1 1 (Int32.toNatClampNeg (5 + v1))) = (-4) then some ((-2), u) else (if (u.1 1 1) = 0 then some ((-2), u) else (ob (f_X6_chance_L71 N v1 v2 v3 v4 1 N u 0) fun q15 => (ob (f_X6_chance_L112 N v2 v3 v4 N q15 1 0) fun q36 => (og (inB v2 8) <| (olet (q36.2.2 11 (Int32.toNatClampNeg v2)) fun w38 => (ob (f_X6_chance_L261 N q36.2 v2 v4 q36.1 N w38 q36.1) fun q42 => (if v4 = 0 then (og (inB v2 8) <| (og (neL q42) <| some ((Int64.toInt32 ((q36.2.2 11 (Int32.toNatClampNeg v2)) / q42)), q36.2))) else (og (neL q42) <| some ((Int64.toInt32 (q36.1 / q42)), q36.2)))))))))))))))
abbrev rm_X6_image : Room := { frames := 1, cells := 0, slots := 0, locals := 24 }
def f_X6_image (N : Nat) (u : zS) : Option (Int32 × zS) := (ob (f_X6_bring N u 0 120 120) fun r1 => (olet (wI r1 0 1 1) fun u2 => some (1, u2)))
abbrev rm_X6_restore : Room := { frames := 1, cells := 0, slots := 0, locals := 24 }
def f_X6_restore (N : Nat) (u : zS) : Option (Int32 × zS) := (if (u.1 0 1) = 0 then some ((-4), u) else (ob (f_X6_bring N u 120 0 120) fun r2 => some (1, r2)))
abbrev rm_X6_isSheet : Room := { frames := 1, cells := 0, slots := 0, locals := 25 }
def f_X6_isSheet (v0 : Int32) : Int32 := (f_X6_in (Int32.toInt64 v0) 0 3)
abbrev rm_X6_isLane : Room := { frames := 2, cells := 0, slots := 0, locals := 45 }
def f_X6_isLane (v0 : Int32) (v1 : Int32) : Int32 := (if (f_X6_isSheet v0) = 0 then 0 else (if (f_X6_in (Int32.toInt64 v1) 0 3) = 0 then 0 else 1))
abbrev rm_X6_against : Room := { frames := 0, cells := 0, slots := 0, locals := 0 }
def f_X6_against (u : zS) (v1 : Int32) (v2 : Int32) (v3 : Int32) (v4 : Int32) : Option (Int32) := (og (inB v1 4) <| (if 0 ≤ (u.1 4 (Int32.toNatClampNeg v1)) then (og (inB v1 4) <| (if (u.1 5 (Int32.toNatClampNeg v1)) = v2 then (if v3 < 0 then some (-13) else (if v4 < 0 then some (-13) else (og (inB v1 4) <| (if (lg_cmp ((Int32.toInt64 v3) + (Int32.toInt64 v4)) (Int32.toInt64 (u.1 4 (Int32.toNatClampNeg v1)))) ≤ 0 then some 0 else some (-13))))) else some (-12))) else some (-11)))
abbrev rm_X6_lowest : Room := { frames := 0, cells := 0, slots := 0, locals := 0 }
def f_X6_lowest (v0 : Int32) (v1 : Int64) : Int64 := (if v0 = 0 then (Int32.toInt64 (Int8.toInt32 (Int32.toInt8 (Int64.toInt32 v1)))) else (if v0 = 1 then (Int32.toInt64 (Int16.toInt32 (Int32.toInt16 (Int64.toInt32 v1)))) else (if v0 = 2 then (Int32.toInt64 (Int64.toInt32 v1)) else v1)))
abbrev rm_X6_counts : Room := { frames := 3, cells := 0, slots := 0, locals := 66 }
def f_X6_counts_L91_B (N : Nat) (u : zS) (v1 : Int32) (v2 : Int32) (v4 : Int32) (v5 : Int32) (v6 : Int32) (v8 : Int32) (v9 : Int32) (v10 : Int32) (v11 : Int32) (rec : Int32 → Int32 → Option (Int32)) (v12 : Int32) (v13 : Int32) : Option (Int32) := (if v5 ≤ v13 then some v12 else (if v12 = 0 then some v12 else (ob (f_X6_seenOf N v11 ((v1 + v13) - (v1 + v13) / 8 * 8)) fun r10 => (og (inB (((24 * v2) + v4) + v13) 96) <| (if (lg_cmp (Int32.toInt64 r10) (u.2 3 (Int32.toNatClampNeg (((24 * v2) + v4) + v13)))) = 0 then rec 1 (v13 + 1) else rec 0 (v13 + 1))))))
def f_X6_counts_L91 (N : Nat) (u : zS) (v1 : Int32) (v2 : Int32) (v4 : Int32) (v5 : Int32) (v6 : Int32) (v8 : Int32) (v9 : Int32) (v10 : Int32) (v11 : Int32) : Nat → Int32 → Int32 → Option (Int32)
  | 0, _, _ => none
  | n + 1, v12, v13 => f_X6_counts_L91_B N u v1 v2 v4 v5 v6 v8 v9 v10 v11 (f_X6_counts_L91 N u v1 v2 v4 v5 v6 v8 v9 v10 v11 n) v12 v13
def f_X6_counts_J188 (N : Nat) (u : zS) (v1 : Int32) (v2 : Int32) (v4 : Int32) (v5 : Int32) (v6 : Int32) (rec : Int32 → Int32 → Int32 → Int32 → Option (Int32 × Int32 × Int32)) (v8 : Int32) (v10 : Int32) (v11 : Int32) (v12 : Int32) (s0 : Int32) : Option (Int32 × Int32 × Int32) := (if v12 = 0 then rec v8 s0 v10 (v11 + 1) else (ob (f_X6_ones N v11) fun r17 => (if r17 ≤ v10 then rec v8 s0 v10 (v11 + 1) else (ob (f_X6_ones N v11) fun r19 => rec v8 s0 r19 (v11 + 1)))))
def f_X6_counts_J186 (N : Nat) (u : zS) (v1 : Int32) (v2 : Int32) (v4 : Int32) (v5 : Int32) (v6 : Int32) (rec : Int32 → Int32 → Int32 → Int32 → Option (Int32 × Int32 × Int32)) (v8 : Int32) (v9 : Int32) (v10 : Int32) (v11 : Int32) (v12 : Int32) : Option (Int32 × Int32 × Int32) := f_X6_counts_J188 N u v1 v2 v4 v5 v6 rec v8 v10 v11 v12 v9
def f_X6_counts_J160 (N : Nat) (u : zS) (v1 : Int32) (v2 : Int32) (v4 : Int32) (v5 : Int32) (v6 : Int32) (rec : Int32 → Int32 → Int32 → Int32 → Option (Int32 × Int32 × Int32)) (v9 : Int32) (v10 : Int32) (v11 : Int32) (v12 : Int32) (s0 : Int32) (s1 : Int32) : Option (Int32 × Int32 × Int32) := (if v12 = 0 then f_X6_counts_J186 N u v1 v2 v4 v5 v6 rec (s0 + s1) v9 v10 v11 v12 else (ob (f_X6_ones N v11) fun r20 => (if v9 ≤ r20 then f_X6_counts_J186 N u v1 v2 v4 v5 v6 rec (s0 + s1) v9 v10 v11 v12 else (ob (f_X6_ones N v11) fun r22 => f_X6_counts_J188 N u v1 v2 v4 v5 v6 rec (s0 + s1) v10 v11 v12 r22))))
def f_X6_counts_J148 (N : Nat) (u : zS) (v1 : Int32) (v2 : Int32) (v4 : Int32) (v5 : Int32) (v6 : Int32) (rec : Int32 → Int32 → Int32 → Int32 → Option (Int32 × Int32 × Int32)) (v8 : Int32) (v9 : Int32) (v10 : Int32) (v11 : Int32) (v12 : Int32) : Option (Int32 × Int32 × Int32) := (if v12 = 0 then f_X6_counts_J160 N u v1 v2 v4 v5 v6 rec v9 v10 v11 v12 v8 0 else f_X6_counts_J160 N u v1 v2 v4 v5 v6 rec v9 v10 v11 v12 v8 1)
def f_X6_counts_L77_B (N : Nat) (u : zS) (v1 : Int32) (v2 : Int32) (v4 : Int32) (v5 : Int32) (v6 : Int32) (rec : Int32 → Int32 → Int32 → Int32 → Option (Int32 × Int32 × Int32)) (v8 : Int32) (v9 : Int32) (v10 : Int32) (v11 : Int32) : Option (Int32 × Int32 × Int32) := (if 256 ≤ v11 then some (v8, v9, v10) else (ob (f_X6_counts_L91 N u v1 v2 v4 v5 v6 v8 v9 v10 v11 N 1 0) fun q13 => f_X6_counts_J148 N u v1 v2 v4 v5 v6 rec v8 v9 v10 v11 q13))
def f_X6_counts_L77 (N : Nat) (u : zS) (v1 : Int32) (v2 : Int32) (v4 : Int32) (v5 : Int32) (v6 : Int32) : Nat → Int32 → Int32 → Int32 → Int32 → Option (Int32 × Int32 × Int32)
  | 0, _, _, _, _ => none
  | n + 1, v8, v9, v10, v11 => f_X6_counts_L77_B N u v1 v2 v4 v5 v6 (f_X6_counts_L77 N u v1 v2 v4 v5 v6 n) v8 v9 v10 v11
def f_X6_counts (N : Nat) (u : zS) (v1 : Int32) (v2 : Int32) (v3 : Int32) (v4 : Int32) (v5 : Int32) (v6 : Int32) : Option (Int32) := (if (f_X6_isPlace v1) = 0 then some (-1) else (if (f_X6_isLane v2 v3) = 0 then some (-1) else (if (f_X6_in (Int32.toInt64 v5) 1 8) = 0 then some (-1) else (if (f_X6_in (Int32.toInt64 v6) 0 2) = 0 then some (-1) else (ob (f_X6_against u v2 v3 v4 v5) fun r5 => (if 0 ≤ r5 then (ob (f_X6_counts_L77 N u v1 v2 v4 v5 v6 N 0 1000000 (-4) 0) fun q23 => (if v6 = 0 then some q23.1 else (if q23.1 = 0 then some (-4) else (if v6 = 1 then some q23.2.1 else some q23.2.2)))) else some r5))))))
abbrev rm_X6_steps : Room := { frames := 4, cells := 0, slots := 0, locals := 86 }
def f_X6_steps_J218 (N : Nat) (u : zS) (v1 : Int32) (v3 : Int32) (v5 : Int32) (v6 : Int32) (v7 : Int32) (v9 : Int32) (v10 : Int32) (v11 : Int32) (v12 : Int32) (rec : Int32 → Int32 → Int32 → Option (Int32)) (v15 : Int32) (s0 : Int32) : Option (Int32) := (og (inB (((24 * v3) + v5) + v15) 96) <| (if (lg_cmp (Int32.toInt64 s0) (u.2 3 (Int32.toNatClampNeg (((24 * v3) + v5) + v15)))) = 0 then rec 1 s0 (v15 + 1) else rec 0 s0 (v15 + 1)))
def f_X6_steps_L162_B (N : Nat) (u : zS) (v1 : Int32) (v3 : Int32) (v5 : Int32) (v6 : Int32) (v7 : Int32) (v9 : Int32) (v10 : Int32) (v11 : Int32) (v12 : Int32) (rec : Int32 → Int32 → Int32 → Option (Int32)) (v13 : Int32) (v14 : Int32) (v15 : Int32) : Option (Int32) := (if v6 ≤ v15 then some v13 else (if v13 = 0 then some v13 else (if (u.1 1 2) = 0 then f_X6_steps_J218 N u v1 v3 v5 v6 v7 v9 v10 v11 v12 rec v15 v14 else (og (neB (u.1 1 2)) <| (og (inB (23 + (((u.1 1 3) + v15) - ((u.1 1 3) + v15) / (u.1 1 2) * (u.1 1 2))) 279) <| (ob (f_X6_leadsOf u (u.1 1 (Int32.toNatClampNeg (23 + (((u.1 1 3) + v15) - ((u.1 1 3) + v15) / (u.1 1 2) * (u.1 1 2))))) v14) fun r23 => f_X6_steps_J218 N u v1 v3 v5 v6 v7 v9 v10 v11 v12 rec v15 r23))))))
def f_X6_steps_L162 (N : Nat) (u : zS) (v1 : Int32) (v3 : Int32) (v5 : Int32) (v6 : Int32) (v7 : Int32) (v9 : Int32) (v10 : Int32) (v11 : Int32) (v12 : Int32) : Nat → Int32 → Int32 → Int32 → Option (Int32)
  | 0, _, _, _ => none
  | n + 1, v13, v14, v15 => f_X6_steps_L162_B N u v1 v3 v5 v6 v7 v9 v10 v11 v12 (f_X6_steps_L162 N u v1 v3 v5 v6 v7 v9 v10 v11 v12 n) v13 v14 v15
def f_X6_steps_J255 (N : Nat) (v1 : Int32) (v3 : Int32) (v5 : Int32) (v6 : Int32) (v7 : Int32) (v9 : Int32) (v10 : Int32) (rec : zS → Int32 → Int32 → Option (Int32 × zS)) (u : zS) (v11 : Int32) (v12 : Int32) (v13 : Int32) : Option (Int32 × zS) := (if v13 = 0 then rec u (v11 ||| 0) (v12 + 1) else (olet (v11 ||| (1 <<< (v12 &&& (31 : Int32)))) fun w28 => rec u w28 (v12 + 1)))
def f_X6_steps_J134 (N : Nat) (v1 : Int32) (v3 : Int32) (v5 : Int32) (v6 : Int32) (v7 : Int32) (v9 : Int32) (v10 : Int32) (rec : zS → Int32 → Int32 → Option (Int32 × zS)) (u : zS) (v11 : Int32) (v12 : Int32) (s0 : Int32) (s1 : Int32) : Option (Int32 × zS) := (if s1 < s0 then some (v11, u) else (og (inB v9 279) <| (olet (wI u 1 (Int32.toNatClampNeg v9) v12) fun u15 => (og (inB (5 + v1) 279) <| (olet (u15.1 1 (Int32.toNatClampNeg (5 + v1))) fun w17 => (ob (f_X6_steps_L162 N u15 v1 v3 v5 v6 v7 v9 v10 v11 v12 N 1 w17 0) fun q26 => f_X6_steps_J255 N v1 v3 v5 v6 v7 v9 v10 rec u15 v11 v12 q26))))))
def f_X6_steps_L121_B (N : Nat) (v1 : Int32) (v3 : Int32) (v5 : Int32) (v6 : Int32) (v7 : Int32) (v9 : Int32) (v10 : Int32) (rec : zS → Int32 → Int32 → Option (Int32 × zS)) (u : zS) (v11 : Int32) (v12 : Int32) : Option (Int32 × zS) := (if v7 = 0 then f_X6_steps_J134 N v1 v3 v5 v6 v7 v9 v10 rec u v11 v12 v12 4 else f_X6_steps_J134 N v1 v3 v5 v6 v7 v9 v10 rec u v11 v12 v12 7)
def f_X6_steps_L121 (N : Nat) (v1 : Int32) (v3 : Int32) (v5 : Int32) (v6 : Int32) (v7 : Int32) (v9 : Int32) (v10 : Int32) : Nat → zS → Int32 → Int32 → Option (Int32 × zS)
  | 0, _, _, _ => none
  | n + 1, u, v11, v12 => f_X6_steps_L121_B N v1 v3 v5 v6 v7 v9 v10 (f_X6_steps_L121 N v1 v3 v5 v6 v7 v9 v10 n) u v11 v12
def f_X6_steps_J104 (N : Nat) (u : zS) (v1 : Int32) (v3 : Int32) (v5 : Int32) (v6 : Int32) (v7 : Int32) (s0 : Int32) : Option (Int32 × zS) := (og (inB s0 279) <| (ob (f_X6_steps_L121 N v1 v3 v5 v6 v7 s0 (u.1 1 (Int32.toNatClampNeg s0)) N u 0 0) fun q29 => (og (inB s0 279) <| (olet (wI q29.2 1 (Int32.toNatClampNeg s0) (u.1 1 (Int32.toNatClampNeg s0))) fun u31 => some (q29.1, u31)))))
def f_X6_steps (N : Nat) (u : zS) (v1 : Int32) (v2 : Int32) (v3 : Int32) (v4 : Int32) (v5 : Int32) (v6 : Int32) (v7 : Int32) : Option (Int32 × zS) := (if (f_X6_isAngel u v1) = 0 then some ((-1), u) else (if (f_X6_isFigure u v2) = 0 then some ((-1), u) else (if (f_X6_isLane v3 v4) = 0 then some ((-1), u) else (if (f_X6_in (Int32.toInt64 v6) 1 8) = 0 then some ((-1), u) else (if (f_X6_in (Int32.toInt64 v7) 0 1) = 0 then some ((-1), u) else (ob (f_X6_against u v3 v4 v5 v6) fun r6 => (if 0 ≤ r6 then (og (inB (5 + v1) 279) <| (if (u.1 1 (Int32.toNatClampNeg (5 + v1))) = (-4) then some ((-2), u) else (if v7 = 0 then f_X6_steps_J104 N u v1 v3 v5 v6 v7 (13 + v2) else f_X6_steps_J104 N u v1 v3 v5 v6 v7 (18 + v2)))) else some (r6, u))))))))
abbrev rm_X6_film : Room := { frames := 7, cells := 0, slots := 0, locals := 158 }
def f_X6_film_L54_B (N : Nat) (v1 : Int32) (v2 : Int32) (v3 : Int32) (v5 : Int32) (rec : zS → Int32 → Option (zS)) (u : zS) (v7 : Int32) : Option (zS) := (if v2 ≤ v7 then some u else (og (inB (5 + v1) 279) <| (ob (f_X6_behind N u (u.1 1 (Int32.toNatClampNeg (5 + v1))) (v7 + 1)) fun r8 => (og (inB (((24 * v3) + v5) + v7) 96) <| (olet (wL u 3 (Int32.toNatClampNeg (((24 * v3) + v5) + v7)) (Int32.toInt64 r8)) fun u10 => rec u10 (v7 + 1))))))
def f_X6_film_L54 (N : Nat) (v1 : Int32) (v2 : Int32) (v3 : Int32) (v5 : Int32) : Nat → zS → Int32 → Option (zS)
  | 0, _, _ => none
  | n + 1, u, v7 => f_X6_film_L54_B N v1 v2 v3 v5 (f_X6_film_L54 N v1 v2 v3 v5 n) u v7
def f_X6_film (N : Nat) (u : zS) (v1 : Int32) (v2 : Int32) (v3 : Int32) (v4 : Int32) (v5 : Int32) : Option (Int32 × zS) := (if (f_X6_isAngel u v1) = 0 then some ((-1), u) else (if (f_X6_in (Int32.toInt64 v2) 1 24) = 0 then some ((-1), u) else (if (f_X6_isLane v3 v4) = 0 then some ((-1), u) else (ob (f_X6_against u v3 v4 v5 v2) fun r4 => (if 0 ≤ r4 then (ob (f_X6_film_L54 N v1 v2 v3 v5 N u 0) fun q11 => some (v2, q11)) else some (r4, u))))))
abbrev rm_X6_sheet : Room := { frames := 3, cells := 0, slots := 0, locals := 66 }
def f_X6_sheet_L40_B (N : Nat) (v1 : Int32) (v3 : Int32) (rec : zS → Int32 → Option (zS)) (u : zS) (v4 : Int32) : Option (zS) := (if 24 ≤ v4 then some u else (og (inB ((24 * v1) + v4) 96) <| (olet (wL u 3 (Int32.toNatClampNeg ((24 * v1) + v4)) 0) fun u10 => rec u10 (v4 + 1))))
def f_X6_sheet_L40 (N : Nat) (v1 : Int32) (v3 : Int32) : Nat → zS → Int32 → Option (zS)
  | 0, _, _ => none
  | n + 1, u, v4 => f_X6_sheet_L40_B N v1 v3 (f_X6_sheet_L40 N v1 v3 n) u v4
def f_X6_sheet (N : Nat) (u : zS) (v1 : Int32) (v2 : Int32) (v3 : Int32) : Option (Int32 × zS) := (if (f_X6_isLane v1 v2) = 0 then some ((-1), u) else (if v3 ≤ 24 then (if 0 ≤ v3 then (og (inB v1 4) <| (olet (wI u 5 (Int32.toNatClampNeg v1) v2) fun u5 => (og (inB v1 4) <| (olet (wI u5 4 (Int32.toNatClampNeg v1) v3) fun u7 => (ob (f_X6_sheet_L40 N v1 v3 N u7 0) fun q11 => some (v3, q11)))))) else some ((-14), u)) else some ((-1), u)))
abbrev rm_X6_drop : Room := { frames := 2, cells := 0, slots := 0, locals := 45 }
def f_X6_drop (u : zS) (v1 : Int32) : Option (Int32 × zS) := (if (f_X6_isSheet v1) = 0 then some ((-1), u) else (og (inB v1 4) <| (if 0 ≤ (u.1 4 (Int32.toNatClampNeg v1)) then (og (inB v1 4) <| (og (inB v1 4) <| (olet (wI u 4 (Int32.toNatClampNeg v1) (-1)) fun u6 => some ((u.1 4 (Int32.toNatClampNeg v1)), u6)))) else some ((-11), u))))
abbrev rm_X6_item : Room := { frames := 3, cells := 0, slots := 0, locals := 66 }
def f_X6_item (u : zS) (v1 : Int32) (v2 : Int32) (v3 : Int32) (v4 : Int64) : Option (Int32 × zS) := (if (f_X6_isLane v1 v2) = 0 then some ((-1), u) else (ob (f_X6_against u v1 v2 v3 1) fun r2 => (if 0 ≤ r2 then (og (inB ((24 * v1) + v3) 96) <| (olet (wL u 3 (Int32.toNatClampNeg ((24 * v1) + v3)) (f_X6_lowest v2 v4)) fun u5 => some (1, u5))) else some (r2, u))))
abbrev rm_X6_copy : Room := { frames := 2, cells := 0, slots := 0, locals := 45 }
def f_X6_copy_L96_B (N : Nat) (v1 : Int32) (v2 : Int32) (v3 : Int32) (v4 : Int32) (v5 : Int32) (rec : zS → Int32 → Option (zS)) (u : zS) (v6 : Int32) : Option (zS) := (if v5 ≤ v6 then some u else (og (inB (((24 * v1) + v2) + v6) 96) <| (og (inB v6 24) <| (olet (wL u 13 (Int32.toNatClampNeg v6) (u.2 3 (Int32.toNatClampNeg (((24 * v1) + v2) + v6)))) fun u19 => rec u19 (v6 + 1)))))
def f_X6_copy_L96 (N : Nat) (v1 : Int32) (v2 : Int32) (v3 : Int32) (v4 : Int32) (v5 : Int32) : Nat → zS → Int32 → Option (zS)
  | 0, _, _ => none
  | n + 1, u, v6 => f_X6_copy_L96_B N v1 v2 v3 v4 v5 (f_X6_copy_L96 N v1 v2 v3 v4 v5 n) u v6
def f_X6_copy_L133_B (N : Nat) (v3 : Int32) (v4 : Int32) (v5 : Int32) (rec : zS → Int32 → Option (zS)) (u : zS) (v6 : Int32) : Option (zS) := (if v5 ≤ v6 then some u else (og (inB v6 24) <| (og (inB (((24 * v3) + v4) + v6) 96) <| (olet (wL u 3 (Int32.toNatClampNeg (((24 * v3) + v4) + v6)) (u.2 13 (Int32.toNatClampNeg v6))) fun u24 => rec u24 (v6 + 1)))))
def f_X6_copy_L133 (N : Nat) (v3 : Int32) (v4 : Int32) (v5 : Int32) : Nat → zS → Int32 → Option (zS)
  | 0, _, _ => none
  | n + 1, u, v6 => f_X6_copy_L133_B N v3 v4 v5 (f_X6_copy_L133 N v3 v4 v5 n) u v6
def f_X6_copy (N : Nat) (u : zS) (v1 : Int32) (v2 : Int32) (v3 : Int32) (v4 : Int32) (v5 : Int32) : Option (Int32 × zS) := (if (f_X6_isSheet v1) = 0 then some ((-1), u) else (if (f_X6_isSheet v3) = 0 then some ((-1), u) else (og (inB v1 4) <| (if (u.1 4 (Int32.toNatClampNeg v1)) < 0 then some ((-11), u) else (og (inB v3 4) <| (if 0 ≤ (u.1 4 (Int32.toNatClampNeg v3)) then (og (inB v1 4) <| (og (inB v3 4) <| (if (u.1 5 (Int32.toNatClampNeg v1)) = (u.1 5 (Int32.toNatClampNeg v3)) then (og (inB v1 4) <| (ob (f_X6_against u v1 (u.1 5 (Int32.toNatClampNeg v1)) v2 v5) fun r11 => (if r11 < 0 then some ((-13), u) else (og (inB v3 4) <| (ob (f_X6_against u v3 (u.1 5 (Int32.toNatClampNeg v3)) v4 v5) fun r14 => (if 0 ≤ r14 then (ob (f_X6_copy_L96 N v1 v2 v3 v4 v5 N u 0) fun q20 => (ob (f_X6_copy_L133 N v3 v4 v5 N q20 0) fun q25 => some (v5, q25))) else some ((-13), u))))))) else some ((-12), u)))) else some ((-11), u)))))))
