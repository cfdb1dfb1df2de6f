section
-- ===== PART A: goes FIRST, ahead of the names: the tables' words, and 'selects' of the private methods out of them =====
/-- a private method of a class that the tables say can be made, by its rows of tables_1 -/
def lw_okq (q : MethodName × Nat) : Prop := (q.1.cls ≠ "java/lang/invoke/MethodHandle" ∧ q.1.cls ≠ "java/lang/invoke/VarHandle") ∧ Cond.instantiable q.1.cls q.2 ∈ tables_1 ∧ Cond.privateMethod q.1 ∈ tables_1 ∧ Cond.instanceMethod q.1 ∈ tables_1
theorem lw_p0 : lw_okq (⟨"PinAngels$Tape", "readPlaces", "(LPinAngels$Ring;)Z"⟩, 3) := ⟨⟨by decide +kernel, by decide +kernel⟩, List.mem_of_getElem? (i := 99) (by decide +kernel), List.mem_of_getElem? (i := 329) (by decide +kernel), List.mem_of_getElem? (i := 330) (by decide +kernel)⟩
theorem lw_p1 : lw_okq (⟨"PinAngels$Tape", "takes", "(I)Z"⟩, 3) := ⟨⟨by decide +kernel, by decide +kernel⟩, List.mem_of_getElem? (i := 99) (by decide +kernel), List.mem_of_getElem? (i := 333) (by decide +kernel), List.mem_of_getElem? (i := 334) (by decide +kernel)⟩
theorem lw_p2 : lw_okq (⟨"PinAngels$Tape", "next", "()I"⟩, 3) := ⟨⟨by decide +kernel, by decide +kernel⟩, List.mem_of_getElem? (i := 99) (by decide +kernel), List.mem_of_getElem? (i := 337) (by decide +kernel), List.mem_of_getElem? (i := 338) (by decide +kernel)⟩
theorem lw_p3 : lw_okq (⟨"PinAngels$Tape", "readFigures", "(LPinAngels$Ring;)Z"⟩, 3) := ⟨⟨by decide +kernel, by decide +kernel⟩, List.mem_of_getElem? (i := 99) (by decide +kernel), List.mem_of_getElem? (i := 342) (by decide +kernel), List.mem_of_getElem? (i := 343) (by decide +kernel)⟩
theorem lw_p4 : lw_okq (⟨"PinAngels$Tape", "readFigure", "(LPinAngels$Ring;)Z"⟩, 3) := ⟨⟨by decide +kernel, by decide +kernel⟩, List.mem_of_getElem? (i := 99) (by decide +kernel), List.mem_of_getElem? (i := 346) (by decide +kernel), List.mem_of_getElem? (i := 347) (by decide +kernel)⟩
theorem lw_p5 : lw_okq (⟨"PinAngels$Tape", "takeDigit", "(I)I"⟩, 3) := ⟨⟨by decide +kernel, by decide +kernel⟩, List.mem_of_getElem? (i := 99) (by decide +kernel), List.mem_of_getElem? (i := 353) (by decide +kernel), List.mem_of_getElem? (i := 354) (by decide +kernel)⟩
theorem lw_p6 : lw_okq (⟨"PinAngels$Tape", "readTune", "(LPinAngels$Ring;)Z"⟩, 3) := ⟨⟨by decide +kernel, by decide +kernel⟩, List.mem_of_getElem? (i := 99) (by decide +kernel), List.mem_of_getElem? (i := 358) (by decide +kernel), List.mem_of_getElem? (i := 359) (by decide +kernel)⟩
theorem lw_p7 : lw_okq (⟨"PinAngels", "refusedBeats", "(I)I"⟩, 9) := ⟨⟨by decide +kernel, by decide +kernel⟩, List.mem_of_getElem? (i := 12) (by decide +kernel), List.mem_of_getElem? (i := 395) (by decide +kernel), List.mem_of_getElem? (i := 396) (by decide +kernel)⟩
theorem lw_p8 : lw_okq (⟨"PinAngels", "roundsTillAllBack", "()I"⟩, 9) := ⟨⟨by decide +kernel, by decide +kernel⟩, List.mem_of_getElem? (i := 12) (by decide +kernel), List.mem_of_getElem? (i := 482) (by decide +kernel), List.mem_of_getElem? (i := 483) (by decide +kernel)⟩
theorem lw_p9 : lw_okq (⟨"PinAngels$Search", "comeTo", "(III)V"⟩, 5) := ⟨⟨by decide +kernel, by decide +kernel⟩, List.mem_of_getElem? (i := 134) (by decide +kernel), List.mem_of_getElem? (i := 506) (by decide +kernel), List.mem_of_getElem? (i := 507) (by decide +kernel)⟩
theorem lw_p10 : lw_okq (⟨"PinAngels", "countWays", "(II)V"⟩, 9) := ⟨⟨by decide +kernel, by decide +kernel⟩, List.mem_of_getElem? (i := 12) (by decide +kernel), List.mem_of_getElem? (i := 538) (by decide +kernel), List.mem_of_getElem? (i := 539) (by decide +kernel)⟩
theorem lw_p11 : lw_okq (⟨"PinAngels", "countWaysOn", "()V"⟩, 9) := ⟨⟨by decide +kernel, by decide +kernel⟩, List.mem_of_getElem? (i := 12) (by decide +kernel), List.mem_of_getElem? (i := 542) (by decide +kernel), List.mem_of_getElem? (i := 543) (by decide +kernel)⟩
theorem lw_p12 : lw_okq (⟨"PinAngels", "isSeenAsTold", "(IIIII)Z"⟩, 9) := ⟨⟨by decide +kernel, by decide +kernel⟩, List.mem_of_getElem? (i := 12) (by decide +kernel), List.mem_of_getElem? (i := 576) (by decide +kernel), List.mem_of_getElem? (i := 577) (by decide +kernel)⟩
theorem lw_p13 : lw_okq (⟨"PinAngels", "goesAsTold", "(LPinAngels$Ring;IIII)Z"⟩, 9) := ⟨⟨by decide +kernel, by decide +kernel⟩, List.mem_of_getElem? (i := 12) (by decide +kernel), List.mem_of_getElem? (i := 593) (by decide +kernel), List.mem_of_getElem? (i := 594) (by decide +kernel)⟩
theorem lw_p14 : lw_okq (⟨"PinAngelsModel", "taken", "()I"⟩, 16) := ⟨⟨by decide +kernel, by decide +kernel⟩, List.mem_of_getElem? (i := 639) (by decide +kernel), List.mem_of_getElem? (i := 705) (by decide +kernel), List.mem_of_getElem? (i := 706) (by decide +kernel)⟩
theorem lw_p15 : lw_okq (⟨"PinAngelsModel", "isFigure", "(I)Z"⟩, 16) := ⟨⟨by decide +kernel, by decide +kernel⟩, List.mem_of_getElem? (i := 639) (by decide +kernel), List.mem_of_getElem? (i := 721) (by decide +kernel), List.mem_of_getElem? (i := 722) (by decide +kernel)⟩
def lw_privs_1 : List (MethodName × Nat) := [(⟨"PinAngels$Tape", "readPlaces", "(LPinAngels$Ring;)Z"⟩, 3), (⟨"PinAngels$Tape", "takes", "(I)Z"⟩, 3), (⟨"PinAngels$Tape", "next", "()I"⟩, 3), (⟨"PinAngels$Tape", "readFigures", "(LPinAngels$Ring;)Z"⟩, 3), (⟨"PinAngels$Tape", "readFigure", "(LPinAngels$Ring;)Z"⟩, 3), (⟨"PinAngels$Tape", "takeDigit", "(I)I"⟩, 3), (⟨"PinAngels$Tape", "readTune", "(LPinAngels$Ring;)Z"⟩, 3), (⟨"PinAngels", "refusedBeats", "(I)I"⟩, 9), (⟨"PinAngels", "roundsTillAllBack", "()I"⟩, 9), (⟨"PinAngels$Search", "comeTo", "(III)V"⟩, 5), (⟨"PinAngels", "countWays", "(II)V"⟩, 9), (⟨"PinAngels", "countWaysOn", "()V"⟩, 9), (⟨"PinAngels", "isSeenAsTold", "(IIIII)Z"⟩, 9), (⟨"PinAngels", "goesAsTold", "(LPinAngels$Ring;IIII)Z"⟩, 9), (⟨"PinAngelsModel", "taken", "()I"⟩, 16), (⟨"PinAngelsModel", "isFigure", "(I)Z"⟩, 16)]
theorem lw_r1 : ∀ q ∈ lw_privs_1, lw_okq q := List.forall_mem_cons.mpr ⟨lw_p0, List.forall_mem_cons.mpr ⟨lw_p1, List.forall_mem_cons.mpr ⟨lw_p2, List.forall_mem_cons.mpr ⟨lw_p3, List.forall_mem_cons.mpr ⟨lw_p4, List.forall_mem_cons.mpr ⟨lw_p5, List.forall_mem_cons.mpr ⟨lw_p6, List.forall_mem_cons.mpr ⟨lw_p7, List.forall_mem_cons.mpr ⟨lw_p8, List.forall_mem_cons.mpr ⟨lw_p9, List.forall_mem_cons.mpr ⟨lw_p10, List.forall_mem_cons.mpr ⟨lw_p11, List.forall_mem_cons.mpr ⟨lw_p12, List.forall_mem_cons.mpr ⟨lw_p13, List.forall_mem_cons.mpr ⟨lw_p14, List.forall_mem_cons.mpr ⟨lw_p15, fun _ h => absurd h List.not_mem_nil⟩⟩⟩⟩⟩⟩⟩⟩⟩⟩⟩⟩⟩⟩⟩⟩
theorem lw_p16 : lw_okq (⟨"PinAngelsModel", "orderOf", "(I)I"⟩, 16) := ⟨⟨by decide +kernel, by decide +kernel⟩, List.mem_of_getElem? (i := 639) (by decide +kernel), List.mem_of_getElem? (i := 733) (by decide +kernel), List.mem_of_getElem? (i := 734) (by decide +kernel)⟩
theorem lw_p17 : lw_okq (⟨"PinAngelsModel", "leadsOf", "(II)I"⟩, 16) := ⟨⟨by decide +kernel, by decide +kernel⟩, List.mem_of_getElem? (i := 639) (by decide +kernel), List.mem_of_getElem? (i := 737) (by decide +kernel), List.mem_of_getElem? (i := 738) (by decide +kernel)⟩
theorem lw_p18 : lw_okq (⟨"PinAngelsModel", "keptBy", "(I)I"⟩, 16) := ⟨⟨by decide +kernel, by decide +kernel⟩, List.mem_of_getElem? (i := 639) (by decide +kernel), List.mem_of_getElem? (i := 750) (by decide +kernel), List.mem_of_getElem? (i := 751) (by decide +kernel)⟩
theorem lw_p19 : lw_okq (⟨"PinAngelsModel", "sameAs", "(I)I"⟩, 16) := ⟨⟨by decide +kernel, by decide +kernel⟩, List.mem_of_getElem? (i := 639) (by decide +kernel), List.mem_of_getElem? (i := 754) (by decide +kernel), List.mem_of_getElem? (i := 755) (by decide +kernel)⟩
theorem lw_p20 : lw_okq (⟨"PinAngelsModel", "areAlike", "(II)Z"⟩, 16) := ⟨⟨by decide +kernel, by decide +kernel⟩, List.mem_of_getElem? (i := 639) (by decide +kernel), List.mem_of_getElem? (i := 758) (by decide +kernel), List.mem_of_getElem? (i := 759) (by decide +kernel)⟩
theorem lw_p21 : lw_okq (⟨"PinAngelsModel", "isAngel", "(I)Z"⟩, 16) := ⟨⟨by decide +kernel, by decide +kernel⟩, List.mem_of_getElem? (i := 639) (by decide +kernel), List.mem_of_getElem? (i := 770) (by decide +kernel), List.mem_of_getElem? (i := 771) (by decide +kernel)⟩
theorem lw_p22 : lw_okq (⟨"PinAngelsModel", "takesRing", "()Z"⟩, 16) := ⟨⟨by decide +kernel, by decide +kernel⟩, List.mem_of_getElem? (i := 639) (by decide +kernel), List.mem_of_getElem? (i := 791) (by decide +kernel), List.mem_of_getElem? (i := 792) (by decide +kernel)⟩
theorem lw_p23 : lw_okq (⟨"PinAngelsModel", "takesPlaces", "()Z"⟩, 16) := ⟨⟨by decide +kernel, by decide +kernel⟩, List.mem_of_getElem? (i := 639) (by decide +kernel), List.mem_of_getElem? (i := 795) (by decide +kernel), List.mem_of_getElem? (i := 796) (by decide +kernel)⟩
theorem lw_p24 : lw_okq (⟨"PinAngelsModel", "peek", "()I"⟩, 16) := ⟨⟨by decide +kernel, by decide +kernel⟩, List.mem_of_getElem? (i := 639) (by decide +kernel), List.mem_of_getElem? (i := 799) (by decide +kernel), List.mem_of_getElem? (i := 800) (by decide +kernel)⟩
theorem lw_p25 : lw_okq (⟨"PinAngelsModel", "takes", "(I)Z"⟩, 16) := ⟨⟨by decide +kernel, by decide +kernel⟩, List.mem_of_getElem? (i := 639) (by decide +kernel), List.mem_of_getElem? (i := 803) (by decide +kernel), List.mem_of_getElem? (i := 804) (by decide +kernel)⟩
theorem lw_p26 : lw_okq (⟨"PinAngelsModel", "takesFigure", "()Z"⟩, 16) := ⟨⟨by decide +kernel, by decide +kernel⟩, List.mem_of_getElem? (i := 639) (by decide +kernel), List.mem_of_getElem? (i := 807) (by decide +kernel), List.mem_of_getElem? (i := 808) (by decide +kernel)⟩
theorem lw_p27 : lw_okq (⟨"PinAngelsModel", "takesTune", "()Z"⟩, 16) := ⟨⟨by decide +kernel, by decide +kernel⟩, List.mem_of_getElem? (i := 639) (by decide +kernel), List.mem_of_getElem? (i := 814) (by decide +kernel), List.mem_of_getElem? (i := 815) (by decide +kernel)⟩
theorem lw_p28 : lw_okq (⟨"PinAngelsModel", "bring", "(III)V"⟩, 16) := ⟨⟨by decide +kernel, by decide +kernel⟩, List.mem_of_getElem? (i := 639) (by decide +kernel), List.mem_of_getElem? (i := 818) (by decide +kernel), List.mem_of_getElem? (i := 819) (by decide +kernel)⟩
theorem lw_p29 : lw_okq (⟨"PinAngelsModel", "goneOnes", "()I"⟩, 16) := ⟨⟨by decide +kernel, by decide +kernel⟩, List.mem_of_getElem? (i := 639) (by decide +kernel), List.mem_of_getElem? (i := 826) (by decide +kernel), List.mem_of_getElem? (i := 827) (by decide +kernel)⟩
theorem lw_p30 : lw_okq (⟨"PinAngelsModel", "minds", "()V"⟩, 16) := ⟨⟨by decide +kernel, by decide +kernel⟩, List.mem_of_getElem? (i := 639) (by decide +kernel), List.mem_of_getElem? (i := 835) (by decide +kernel), List.mem_of_getElem? (i := 836) (by decide +kernel)⟩
theorem lw_p31 : lw_okq (⟨"PinAngelsModel", "passes", "()V"⟩, 16) := ⟨⟨by decide +kernel, by decide +kernel⟩, List.mem_of_getElem? (i := 639) (by decide +kernel), List.mem_of_getElem? (i := 839) (by decide +kernel), List.mem_of_getElem? (i := 840) (by decide +kernel)⟩
def lw_privs_2 : List (MethodName × Nat) := [(⟨"PinAngelsModel", "orderOf", "(I)I"⟩, 16), (⟨"PinAngelsModel", "leadsOf", "(II)I"⟩, 16), (⟨"PinAngelsModel", "keptBy", "(I)I"⟩, 16), (⟨"PinAngelsModel", "sameAs", "(I)I"⟩, 16), (⟨"PinAngelsModel", "areAlike", "(II)Z"⟩, 16), (⟨"PinAngelsModel", "isAngel", "(I)Z"⟩, 16), (⟨"PinAngelsModel", "takesRing", "()Z"⟩, 16), (⟨"PinAngelsModel", "takesPlaces", "()Z"⟩, 16), (⟨"PinAngelsModel", "peek", "()I"⟩, 16), (⟨"PinAngelsModel", "takes", "(I)Z"⟩, 16), (⟨"PinAngelsModel", "takesFigure", "()Z"⟩, 16), (⟨"PinAngelsModel", "takesTune", "()Z"⟩, 16), (⟨"PinAngelsModel", "bring", "(III)V"⟩, 16), (⟨"PinAngelsModel", "goneOnes", "()I"⟩, 16), (⟨"PinAngelsModel", "minds", "()V"⟩, 16), (⟨"PinAngelsModel", "passes", "()V"⟩, 16)]
theorem lw_r2 : ∀ q ∈ lw_privs_2, lw_okq q := List.forall_mem_cons.mpr ⟨lw_p16, List.forall_mem_cons.mpr ⟨lw_p17, List.forall_mem_cons.mpr ⟨lw_p18, List.forall_mem_cons.mpr ⟨lw_p19, List.forall_mem_cons.mpr ⟨lw_p20, List.forall_mem_cons.mpr ⟨lw_p21, List.forall_mem_cons.mpr ⟨lw_p22, List.forall_mem_cons.mpr ⟨lw_p23, List.forall_mem_cons.mpr ⟨lw_p24, List.forall_mem_cons.mpr ⟨lw_p25, List.forall_mem_cons.mpr ⟨lw_p26, List.forall_mem_cons.mpr ⟨lw_p27, List.forall_mem_cons.mpr ⟨lw_p28, List.forall_mem_cons.mpr ⟨lw_p29, List.forall_mem_cons.mpr ⟨lw_p30, List.forall_mem_cons.mpr ⟨lw_p31, fun _ h => absurd h List.not_mem_nil⟩⟩⟩⟩⟩⟩⟩⟩⟩⟩⟩⟩⟩⟩⟩⟩
theorem lw_p32 : lw_okq (⟨"PinAngelsModel", "blows", "(I)V"⟩, 16) := ⟨⟨by decide +kernel, by decide +kernel⟩, List.mem_of_getElem? (i := 639) (by decide +kernel), List.mem_of_getElem? (i := 847) (by decide +kernel), List.mem_of_getElem? (i := 848) (by decide +kernel)⟩
theorem lw_p33 : lw_okq (⟨"PinAngelsModel", "behind", "(II)I"⟩, 16) := ⟨⟨by decide +kernel, by decide +kernel⟩, List.mem_of_getElem? (i := 639) (by decide +kernel), List.mem_of_getElem? (i := 886) (by decide +kernel), List.mem_of_getElem? (i := 887) (by decide +kernel)⟩
theorem lw_p34 : lw_okq (⟨"PinAngelsModel", "ringOf", "(I)I"⟩, 16) := ⟨⟨by decide +kernel, by decide +kernel⟩, List.mem_of_getElem? (i := 639) (by decide +kernel), List.mem_of_getElem? (i := 890) (by decide +kernel), List.mem_of_getElem? (i := 891) (by decide +kernel)⟩
theorem lw_p35 : lw_okq (⟨"PinAngelsModel", "goesBy", "(II)I"⟩, 16) := ⟨⟨by decide +kernel, by decide +kernel⟩, List.mem_of_getElem? (i := 639) (by decide +kernel), List.mem_of_getElem? (i := 894) (by decide +kernel), List.mem_of_getElem? (i := 895) (by decide +kernel)⟩
theorem lw_p36 : lw_okq (⟨"PinAngelsModel", "laysLeft", "(I)V"⟩, 16) := ⟨⟨by decide +kernel, by decide +kernel⟩, List.mem_of_getElem? (i := 639) (by decide +kernel), List.mem_of_getElem? (i := 915) (by decide +kernel), List.mem_of_getElem? (i := 916) (by decide +kernel)⟩
theorem lw_p37 : lw_okq (⟨"PinAngelsModel", "ledBy", "(II)I"⟩, 16) := ⟨⟨by decide +kernel, by decide +kernel⟩, List.mem_of_getElem? (i := 639) (by decide +kernel), List.mem_of_getElem? (i := 920) (by decide +kernel), List.mem_of_getElem? (i := 921) (by decide +kernel)⟩
theorem lw_p38 : lw_okq (⟨"PinAngelsModel", "laysFar", "(I)I"⟩, 16) := ⟨⟨by decide +kernel, by decide +kernel⟩, List.mem_of_getElem? (i := 639) (by decide +kernel), List.mem_of_getElem? (i := 928) (by decide +kernel), List.mem_of_getElem? (i := 929) (by decide +kernel)⟩
theorem lw_p39 : lw_okq (⟨"PinAngelsModel", "against", "(IIII)I"⟩, 16) := ⟨⟨by decide +kernel, by decide +kernel⟩, List.mem_of_getElem? (i := 639) (by decide +kernel), List.mem_of_getElem? (i := 964) (by decide +kernel), List.mem_of_getElem? (i := 965) (by decide +kernel)⟩
def lw_privs_3 : List (MethodName × Nat) := [(⟨"PinAngelsModel", "blows", "(I)V"⟩, 16), (⟨"PinAngelsModel", "behind", "(II)I"⟩, 16), (⟨"PinAngelsModel", "ringOf", "(I)I"⟩, 16), (⟨"PinAngelsModel", "goesBy", "(II)I"⟩, 16), (⟨"PinAngelsModel", "laysLeft", "(I)V"⟩, 16), (⟨"PinAngelsModel", "ledBy", "(II)I"⟩, 16), (⟨"PinAngelsModel", "laysFar", "(I)I"⟩, 16), (⟨"PinAngelsModel", "against", "(IIII)I"⟩, 16)]
theorem lw_r3 : ∀ q ∈ lw_privs_3, lw_okq q := List.forall_mem_cons.mpr ⟨lw_p32, List.forall_mem_cons.mpr ⟨lw_p33, List.forall_mem_cons.mpr ⟨lw_p34, List.forall_mem_cons.mpr ⟨lw_p35, List.forall_mem_cons.mpr ⟨lw_p36, List.forall_mem_cons.mpr ⟨lw_p37, List.forall_mem_cons.mpr ⟨lw_p38, List.forall_mem_cons.mpr ⟨lw_p39, fun _ h => absurd h List.not_mem_nil⟩⟩⟩⟩⟩⟩⟩⟩
def lw_privs : List (MethodName × Nat) := lw_privs_1 ++ (lw_privs_2 ++ (lw_privs_3))
def lw_tbl : List Cond := k2_sels lw_privs ++ tables_1
theorem lw_privs_ok : ∀ q ∈ lw_privs, lw_okq q := by
  show ∀ q ∈ lw_privs_1 ++ (lw_privs_2 ++ (lw_privs_3)), lw_okq q
  exact List.forall_mem_append.mpr ⟨lw_r1, List.forall_mem_append.mpr ⟨lw_r2, lw_r3⟩⟩
end
section
def RX0 : String := "PinAngels$Past"
def TX0 : u_T := fun k => match k with
  | 0 => ("PinAngels$Past", "places", "[I", true)
  | 1 => ("PinAngels$Past", "atBeat", "[I", true)
  | 2 => ("PinAngels$Past", "draws", "[I", true)
  | 3 => ("PinAngels$Past", "slot", "I", false)
  | _ => ("PinAngels$Past", "known", "I", false)
def tyX0 : Nat → FieldType := fun k => match k with
  | 0 => .array .int
  | 1 => .array .int
  | 2 => .array .int
  | 3 => .int
  | _ => .int
abbrev wsX00 : List Cond := u_ws RX0 TX0 5
theorem nmX0 : ∀ a, a < 5 → ∀ b, b < 5 → a ≠ b → (TX0 a).2.1 ≠ (TX0 b).2.1 := by decide +kernel
theorem tyX0_ok : ∀ k, k < 5 → parseFieldDescriptor (TX0 k).2.2.1 = some (tyX0 k) := by decide +kernel
abbrev cX0_init : ByteArray := prog_2_method_1_code
def yX0_init : MethodName := ⟨RX0, "<init>", "()V"⟩
abbrev cX0_forget : ByteArray := prog_2_method_2_code
def yX0_forget : MethodName := ⟨RX0, "forget", "()V"⟩
abbrev cX0_becomeLike : ByteArray := prog_2_method_3_code
def yX0_becomeLike : MethodName := ⟨RX0, "becomeLike", "(LPinAngels$Past;)V"⟩
abbrev cX0_note : ByteArray := prog_2_method_4_code
def yX0_note : MethodName := ⟨RX0, "note", "(LPinAngels$Ring;)V"⟩
abbrev cX0_bringBack : ByteArray := prog_2_method_5_code
def yX0_bringBack : MethodName := ⟨RX0, "bringBack", "(LPinAngels$Ring;)V"⟩
def RX1 : String := "PinAngels$Ring"
def TX1 : u_T := fun k => match k with
  | 0 => ("PinAngels$Ring", "places", "[I", true)
  | 1 => ("PinAngels$Ring", "kinds", "[I", true)
  | 2 => ("PinAngels$Ring", "fars", "[I", true)
  | 3 => ("PinAngels$Ring", "led", "[I", true)
  | 4 => ("PinAngels$Ring", "melody", "[I", true)
  | 5 => ("PinAngels$Ring", "past", "LPinAngels$Past;", true)
  | 6 => ("PinAngels$Ring", "angels", "I", false)
  | 7 => ("PinAngels$Ring", "figures", "I", false)
  | 8 => ("PinAngels$Ring", "length", "I", false)
  | 9 => ("PinAngels$Ring", "beat", "I", false)
  | _ => ("PinAngels$Ring", "draw", "I", false)
def tyX1 : Nat → FieldType := fun k => match k with
  | 0 => .array .int
  | 1 => .array .int
  | 2 => .array .int
  | 3 => .array .int
  | 4 => .array .int
  | 5 => .object "PinAngels$Past"
  | 6 => .int
  | 7 => .int
  | 8 => .int
  | 9 => .int
  | _ => .int
abbrev wsX10 : List Cond := u_ws RX1 TX1 11
theorem nmX1 : ∀ a, a < 11 → ∀ b, b < 11 → a ≠ b → (TX1 a).2.1 ≠ (TX1 b).2.1 := by decide +kernel
theorem tyX1_ok : ∀ k, k < 11 → parseFieldDescriptor (TX1 k).2.2.1 = some (tyX1 k) := by decide +kernel
abbrev cX1_init : ByteArray := prog_3_method_1_code
def yX1_init : MethodName := ⟨RX1, "<init>", "()V"⟩
abbrev cX1_clear : ByteArray := prog_3_method_2_code
def yX1_clear : MethodName := ⟨RX1, "clear", "()V"⟩
abbrev cX1_becomeLike : ByteArray := prog_3_method_3_code
def yX1_becomeLike : MethodName := ⟨RX1, "becomeLike", "(LPinAngels$Ring;)V"⟩
abbrev cX1_hasAngel : ByteArray := prog_3_method_4_code
def yX1_hasAngel : MethodName := ⟨RX1, "hasAngel", "(I)Z"⟩
abbrev cX1_hasFigure : ByteArray := prog_3_method_5_code
def yX1_hasFigure : MethodName := ⟨RX1, "hasFigure", "(I)Z"⟩
abbrev cX1_addAngel : ByteArray := prog_3_method_6_code
def yX1_addAngel : MethodName := ⟨RX1, "addAngel", "(I)I"⟩
abbrev cX1_addFigure : ByteArray := prog_3_method_7_code
def yX1_addFigure : MethodName := ⟨RX1, "addFigure", "(II)I"⟩
abbrev cX1_tell : ByteArray := prog_3_method_8_code
def yX1_tell : MethodName := ⟨RX1, "tell", "(III)V"⟩
abbrev cX1_addToTune : ByteArray := prog_3_method_9_code
def yX1_addToTune : MethodName := ⟨RX1, "addToTune", "(I)I"⟩
abbrev cX1_standing : ByteArray := prog_3_method_10_code
def yX1_standing : MethodName := ⟨RX1, "standing", "()I"⟩
abbrev cX1_goneOnes : ByteArray := prog_3_method_11_code
def yX1_goneOnes : MethodName := ⟨RX1, "goneOnes", "()I"⟩
abbrev cX1_ledBy : ByteArray := prog_3_method_12_code
def yX1_ledBy : MethodName := ⟨RX1, "ledBy", "(II)I"⟩
abbrev cX1_setLedBy : ByteArray := prog_3_method_13_code
def yX1_setLedBy : MethodName := ⟨RX1, "setLedBy", "(II)I"⟩
abbrev cX1_orderOf : ByteArray := prog_3_method_14_code
def yX1_orderOf : MethodName := ⟨RX1, "orderOf", "(I)I"⟩
abbrev cX1_turnsTillBack : ByteArray := prog_3_method_15_code
def yX1_turnsTillBack : MethodName := ⟨RX1, "turnsTillBack", "(II)I"⟩
abbrev cX1_keptBy : ByteArray := prog_3_method_16_code
def yX1_keptBy : MethodName := ⟨RX1, "keptBy", "(I)I"⟩
abbrev cX1_leastLike : ByteArray := prog_3_method_17_code
def yX1_leastLike : MethodName := ⟨RX1, "leastLike", "(I)I"⟩
abbrev cX1_leadAlike : ByteArray := prog_3_method_18_code
def yX1_leadAlike : MethodName := ⟨RX1, "leadAlike", "(II)Z"⟩
abbrev cX1_figureOfBeat : ByteArray := prog_3_method_19_code
def yX1_figureOfBeat : MethodName := ⟨RX1, "figureOfBeat", "(I)I"⟩
abbrev cX1_goesOn : ByteArray := prog_3_method_20_code
def yX1_goesOn : MethodName := ⟨RX1, "goesOn", "(II)I"⟩
abbrev cX1_dance : ByteArray := prog_3_method_21_code
def yX1_dance : MethodName := ⟨RX1, "dance", "()V"⟩
abbrev cX1_blow : ByteArray := prog_3_method_22_code
def yX1_blow : MethodName := ⟨RX1, "blow", "(I)V"⟩
abbrev cX1_drawAndBlow : ByteArray := prog_3_method_23_code
def yX1_drawAndBlow : MethodName := ⟨RX1, "drawAndBlow", "()V"⟩
abbrev cX1_walk : ByteArray := prog_3_method_24_code
def yX1_walk : MethodName := ⟨RX1, "walk", "(II)I"⟩
abbrev cX1_roundsTillBack : ByteArray := prog_3_method_25_code
def yX1_roundsTillBack : MethodName := ⟨RX1, "roundsTillBack", "(I)I"⟩
abbrev cX1_placeBehind : ByteArray := prog_3_method_26_code
def yX1_placeBehind : MethodName := ⟨RX1, "placeBehind", "(II)I"⟩
def RX2 : String := "PinAngels$Search"
def TX2 : u_T := fun k => match k with
  | 0 => ("PinAngels$Search", "far", "[I", true)
  | 1 => ("PinAngels$Search", "from", "[I", true)
  | 2 => ("PinAngels$Search", "by", "[I", true)
  | 3 => ("PinAngels$Search", "inTurn", "[I", true)
  | _ => ("PinAngels$Search", "reached", "I", false)
def tyX2 : Nat → FieldType := fun k => match k with
  | 0 => .array .int
  | 1 => .array .int
  | 2 => .array .int
  | 3 => .array .int
  | _ => .int
abbrev wsX20 : List Cond := u_ws RX2 TX2 5
theorem nmX2 : ∀ a, a < 5 → ∀ b, b < 5 → a ≠ b → (TX2 a).2.1 ≠ (TX2 b).2.1 := by decide +kernel
theorem tyX2_ok : ∀ k, k < 5 → parseFieldDescriptor (TX2 k).2.2.1 = some (tyX2 k) := by decide +kernel
abbrev cX2_init : ByteArray := prog_4_method_1_code
def yX2_init : MethodName := ⟨RX2, "<init>", "()V"⟩
abbrev cX2_explore : ByteArray := prog_4_method_2_code
def yX2_explore : MethodName := ⟨RX2, "explore", "(LPinAngels$Ring;I)V"⟩
abbrev cX2_comeTo : ByteArray := prog_4_method_3_code
def yX2_comeTo : MethodName := ⟨RX2, "comeTo", "(III)V"⟩
abbrev cX2_howFar : ByteArray := prog_4_method_4_code
def yX2_howFar : MethodName := ⟨RX2, "howFar", "(I)I"⟩
abbrev cX2_figureOnWay : ByteArray := prog_4_method_5_code
def yX2_figureOnWay : MethodName := ⟨RX2, "figureOnWay", "(II)I"⟩
abbrev cX2_widestPair : ByteArray := prog_4_method_6_code
def yX2_widestPair : MethodName := ⟨RX2, "widestPair", "()I"⟩
def RX3 : String := "PinAngels$Sheets"
def TX3 : u_T := fun k => match k with
  | 0 => ("PinAngels$Sheets", "lanes", "[I", true)
  | 1 => ("PinAngels$Sheets", "sizes", "[I", true)
  | _ => ("PinAngels$Sheets", "items", "[J", true)
def tyX3 : Nat → FieldType := fun k => match k with
  | 0 => .array .int
  | 1 => .array .int
  | _ => .array .long
abbrev wsX30 : List Cond := u_ws RX3 TX3 3
theorem nmX3 : ∀ a, a < 3 → ∀ b, b < 3 → a ≠ b → (TX3 a).2.1 ≠ (TX3 b).2.1 := by decide +kernel
theorem tyX3_ok : ∀ k, k < 3 → parseFieldDescriptor (TX3 k).2.2.1 = some (tyX3 k) := by decide +kernel
abbrev cX3_init : ByteArray := prog_5_method_1_code
def yX3_init : MethodName := ⟨RX3, "<init>", "()V"⟩
abbrev cX3_isThere : ByteArray := prog_5_method_2_code
def yX3_isThere : MethodName := ⟨RX3, "isThere", "(I)Z"⟩
abbrev cX3_hasItems : ByteArray := prog_5_method_3_code
def yX3_hasItems : MethodName := ⟨RX3, "hasItems", "(III)Z"⟩
abbrev cX3_refused : ByteArray := prog_5_method_4_code
def yX3_refused : MethodName := ⟨RX3, "refused", "(IIII)I"⟩
abbrev cX3_renew : ByteArray := prog_5_method_5_code
def yX3_renew : MethodName := ⟨RX3, "renew", "(III)V"⟩
abbrev cX3_takeAway : ByteArray := prog_5_method_6_code
def yX3_takeAway : MethodName := ⟨RX3, "takeAway", "(I)I"⟩
abbrev cX3_itemOf : ByteArray := prog_5_method_7_code
def yX3_itemOf : MethodName := ⟨RX3, "itemOf", "(II)J"⟩
abbrev cX3_put : ByteArray := prog_5_method_8_code
def yX3_put : MethodName := ⟨RX3, "put", "(IIJ)V"⟩
abbrev cX3_carry : ByteArray := prog_5_method_9_code
def yX3_carry : MethodName := ⟨RX3, "carry", "(IIIII)V"⟩
abbrev cX3_lowestBits : ByteArray := prog_5_method_10_code
def yX3_lowestBits : MethodName := ⟨RX3, "lowestBits", "(IJ)J"⟩
def RX4 : String := "PinAngels$Tape"
def TX4 : u_T := fun k => match k with
  | 0 => ("PinAngels$Tape", "letters", "[I", true)
  | 1 => ("PinAngels$Tape", "typed", "I", false)
  | _ => ("PinAngels$Tape", "spot", "I", false)
def tyX4 : Nat → FieldType := fun k => match k with
  | 0 => .array .int
  | 1 => .int
  | _ => .int
abbrev wsX40 : List Cond := u_ws RX4 TX4 3
theorem nmX4 : ∀ a, a < 3 → ∀ b, b < 3 → a ≠ b → (TX4 a).2.1 ≠ (TX4 b).2.1 := by decide +kernel
theorem tyX4_ok : ∀ k, k < 3 → parseFieldDescriptor (TX4 k).2.2.1 = some (tyX4 k) := by decide +kernel
abbrev cX4_init : ByteArray := prog_6_method_1_code
def yX4_init : MethodName := ⟨RX4, "<init>", "()V"⟩
abbrev cX4_isFull : ByteArray := prog_6_method_2_code
def yX4_isFull : MethodName := ⟨RX4, "isFull", "()Z"⟩
abbrev cX4_put : ByteArray := prog_6_method_3_code
def yX4_put : MethodName := ⟨RX4, "put", "(I)I"⟩
abbrev cX4_wipe : ByteArray := prog_6_method_4_code
def yX4_wipe : MethodName := ⟨RX4, "wipe", "()V"⟩
abbrev cX4_readInto : ByteArray := prog_6_method_5_code
def yX4_readInto : MethodName := ⟨RX4, "readInto", "(LPinAngels$Ring;)Z"⟩
abbrev cX4_readPlaces : ByteArray := prog_6_method_6_code
def yX4_readPlaces : MethodName := ⟨RX4, "readPlaces", "(LPinAngels$Ring;)Z"⟩
abbrev cX4_readFigures : ByteArray := prog_6_method_7_code
def yX4_readFigures : MethodName := ⟨RX4, "readFigures", "(LPinAngels$Ring;)Z"⟩
abbrev cX4_readFigure : ByteArray := prog_6_method_8_code
def yX4_readFigure : MethodName := ⟨RX4, "readFigure", "(LPinAngels$Ring;)Z"⟩
abbrev cX4_readTune : ByteArray := prog_6_method_9_code
def yX4_readTune : MethodName := ⟨RX4, "readTune", "(LPinAngels$Ring;)Z"⟩
abbrev cX4_next : ByteArray := prog_6_method_10_code
def yX4_next : MethodName := ⟨RX4, "next", "()I"⟩
abbrev cX4_takes : ByteArray := prog_6_method_11_code
def yX4_takes : MethodName := ⟨RX4, "takes", "(I)Z"⟩
abbrev cX4_takeDigit : ByteArray := prog_6_method_12_code
def yX4_takeDigit : MethodName := ⟨RX4, "takeDigit", "(I)I"⟩
abbrev cX4_kindOf : ByteArray := prog_6_method_13_code
def yX4_kindOf : MethodName := ⟨RX4, "kindOf", "(I)I"⟩
def RX5 : String := "PinAngels"
def TX5 : u_T := fun k => match k with
  | 0 => ("PinAngels", "now", "LPinAngels$Ring;", true)
  | 1 => ("PinAngels", "kept", "LPinAngels$Ring;", true)
  | 2 => ("PinAngels", "tried", "LPinAngels$Ring;", true)
  | 3 => ("PinAngels", "tape", "LPinAngels$Tape;", true)
  | 4 => ("PinAngels", "sheets", "LPinAngels$Sheets;", true)
  | 5 => ("PinAngels", "search", "LPinAngels$Search;", true)
  | 6 => ("PinAngels", "ways", "[I", true)
  | 7 => ("PinAngels", "waysOn", "[I", true)
  | _ => ("PinAngels", "imaged", "Z", false)
def tyX5 : Nat → FieldType := fun k => match k with
  | 0 => .object "PinAngels$Ring"
  | 1 => .object "PinAngels$Ring"
  | 2 => .object "PinAngels$Ring"
  | 3 => .object "PinAngels$Tape"
  | 4 => .object "PinAngels$Sheets"
  | 5 => .object "PinAngels$Search"
  | 6 => .array .int
  | 7 => .array .int
  | _ => .boolean
abbrev wsX50 : List Cond := u_ws RX5 TX5 9
theorem nmX5 : ∀ a, a < 9 → ∀ b, b < 9 → a ≠ b → (TX5 a).2.1 ≠ (TX5 b).2.1 := by decide +kernel
theorem tyX5_ok : ∀ k, k < 9 → parseFieldDescriptor (TX5 k).2.2.1 = some (tyX5 k) := by decide +kernel
abbrev cX5_init : ByteArray := prog_1_method_1_code
def yX5_init : MethodName := ⟨RX5, "<init>", "()V"⟩
abbrev cX5_angel : ByteArray := prog_1_method_2_code
def yX5_angel : MethodName := ⟨RX5, "angel", "(I)I"⟩
abbrev cX5_figure : ByteArray := prog_1_method_3_code
def yX5_figure : MethodName := ⟨RX5, "figure", "(II)I"⟩
abbrev cX5_tune : ByteArray := prog_1_method_4_code
def yX5_tune : MethodName := ⟨RX5, "tune", "(I)I"⟩
abbrev cX5_hush : ByteArray := prog_1_method_5_code
def yX5_hush : MethodName := ⟨RX5, "hush", "()I"⟩
abbrev cX5_of : ByteArray := prog_1_method_6_code
def yX5_of : MethodName := ⟨RX5, "of", "(II)I"⟩
abbrev cX5_leads : ByteArray := prog_1_method_7_code
def yX5_leads : MethodName := ⟨RX5, "leads", "(II)I"⟩
abbrev cX5_at : ByteArray := prog_1_method_8_code
def yX5_at : MethodName := ⟨RX5, "at", "(I)I"⟩
abbrev cX5_seen : ByteArray := prog_1_method_9_code
def yX5_seen : MethodName := ⟨RX5, "seen", "(I)I"⟩
abbrev cX5_type : ByteArray := prog_1_method_10_code
def yX5_type : MethodName := ⟨RX5, "type", "(I)I"⟩
abbrev cX5_ring : ByteArray := prog_1_method_11_code
def yX5_ring : MethodName := ⟨RX5, "ring", "()I"⟩
abbrev cX5_count : ByteArray := prog_1_method_12_code
def yX5_count : MethodName := ⟨RX5, "count", "(I)I"⟩
abbrev cX5_beats : ByteArray := prog_1_method_13_code
def yX5_beats : MethodName := ⟨RX5, "beats", "(I)I"⟩
abbrev cX5_draught : ByteArray := prog_1_method_14_code
def yX5_draught : MethodName := ⟨RX5, "draught", "(I)I"⟩
abbrev cX5_leave : ByteArray := prog_1_method_15_code
def yX5_leave : MethodName := ⟨RX5, "leave", "(I)I"⟩
abbrev cX5_come : ByteArray := prog_1_method_16_code
def yX5_come : MethodName := ⟨RX5, "come", "(II)I"⟩
abbrev cX5_drift : ByteArray := prog_1_method_17_code
def yX5_drift : MethodName := ⟨RX5, "drift", "(I)I"⟩
abbrev cX5_undo : ByteArray := prog_1_method_18_code
def yX5_undo : MethodName := ⟨RX5, "undo", "()I"⟩
abbrev cX5_seed : ByteArray := prog_1_method_19_code
def yX5_seed : MethodName := ⟨RX5, "seed", "(I)I"⟩
abbrev cX5_ahead : ByteArray := prog_1_method_20_code
def yX5_ahead : MethodName := ⟨RX5, "ahead", "(II)I"⟩
abbrev cX5_then : ByteArray := prog_1_method_21_code
def yX5_then : MethodName := ⟨RX5, "then", "(III)I"⟩
abbrev cX5_back : ByteArray := prog_1_method_22_code
def yX5_back : MethodName := ⟨RX5, "back", "(I)I"⟩
abbrev cX5_been : ByteArray := prog_1_method_23_code
def yX5_been : MethodName := ⟨RX5, "been", "(I)I"⟩
abbrev cX5_shortest : ByteArray := prog_1_method_24_code
def yX5_shortest : MethodName := ⟨RX5, "shortest", "(II)I"⟩
abbrev cX5_sorts : ByteArray := prog_1_method_25_code
def yX5_sorts : MethodName := ⟨RX5, "sorts", "()I"⟩
abbrev cX5_apart : ByteArray := prog_1_method_26_code
def yX5_apart : MethodName := ⟨RX5, "apart", "(III)I"⟩
abbrev cX5_chance : ByteArray := prog_1_method_27_code
def yX5_chance : MethodName := ⟨RX5, "chance", "(IIII)I"⟩
abbrev cX5_image : ByteArray := prog_1_method_28_code
def yX5_image : MethodName := ⟨RX5, "image", "()I"⟩
abbrev cX5_restore : ByteArray := prog_1_method_29_code
def yX5_restore : MethodName := ⟨RX5, "restore", "()I"⟩
abbrev cX5_counts : ByteArray := prog_1_method_30_code
def yX5_counts : MethodName := ⟨RX5, "counts", "(IIIIII)I"⟩
abbrev cX5_steps : ByteArray := prog_1_method_31_code
def yX5_steps : MethodName := ⟨RX5, "steps", "(IIIIIII)I"⟩
abbrev cX5_film : ByteArray := prog_1_method_32_code
def yX5_film : MethodName := ⟨RX5, "film", "(IIIII)I"⟩
abbrev cX5_sheet : ByteArray := prog_1_method_33_code
def yX5_sheet : MethodName := ⟨RX5, "sheet", "(III)I"⟩
abbrev cX5_drop : ByteArray := prog_1_method_34_code
def yX5_drop : MethodName := ⟨RX5, "drop", "(I)I"⟩
abbrev cX5_item : ByteArray := prog_1_method_35_code
def yX5_item : MethodName := ⟨RX5, "item", "(IIIJ)I"⟩
abbrev cX5_copy : ByteArray := prog_1_method_36_code
def yX5_copy : MethodName := ⟨RX5, "copy", "(IIIII)I"⟩
abbrev cX5_refusedBeats : ByteArray := prog_1_method_37_code
def yX5_refusedBeats : MethodName := ⟨RX5, "refusedBeats", "(I)I"⟩
abbrev cX5_roundsTillAllBack : ByteArray := prog_1_method_38_code
def yX5_roundsTillAllBack : MethodName := ⟨RX5, "roundsTillAllBack", "()I"⟩
abbrev cX5_countWays : ByteArray := prog_1_method_39_code
def yX5_countWays : MethodName := ⟨RX5, "countWays", "(II)V"⟩
abbrev cX5_countWaysOn : ByteArray := prog_1_method_40_code
def yX5_countWaysOn : MethodName := ⟨RX5, "countWaysOn", "()V"⟩
abbrev cX5_isSeenAsTold : ByteArray := prog_1_method_41_code
def yX5_isSeenAsTold : MethodName := ⟨RX5, "isSeenAsTold", "(IIIII)Z"⟩
abbrev cX5_goesAsTold : ByteArray := prog_1_method_42_code
def yX5_goesAsTold : MethodName := ⟨RX5, "goesAsTold", "(LPinAngels$Ring;IIII)Z"⟩
abbrev cX5_within : ByteArray := prog_1_method_43_code
def yX5_within : MethodName := ⟨RX5, "within", "(III)Z"⟩
abbrev cX5_isPlace : ByteArray := prog_1_method_44_code
def yX5_isPlace : MethodName := ⟨RX5, "isPlace", "(I)Z"⟩
abbrev cX5_isSheet : ByteArray := prog_1_method_45_code
def yX5_isSheet : MethodName := ⟨RX5, "isSheet", "(I)Z"⟩
abbrev cX5_isLane : ByteArray := prog_1_method_46_code
def yX5_isLane : MethodName := ⟨RX5, "isLane", "(I)Z"⟩
abbrev cX5_bitOf : ByteArray := prog_1_method_47_code
def yX5_bitOf : MethodName := ⟨RX5, "bitOf", "(I)I"⟩
abbrev cX5_leftBy8 : ByteArray := prog_1_method_48_code
def yX5_leftBy8 : MethodName := ⟨RX5, "leftBy8", "(I)I"⟩
abbrev cX5_holds : ByteArray := prog_1_method_49_code
def yX5_holds : MethodName := ⟨RX5, "holds", "(II)Z"⟩
abbrev cX5_greatestCommon : ByteArray := prog_1_method_50_code
def yX5_greatestCommon : MethodName := ⟨RX5, "greatestCommon", "(II)I"⟩
abbrev cX5_seenFrom : ByteArray := prog_1_method_51_code
def yX5_seenFrom : MethodName := ⟨RX5, "seenFrom", "(II)I"⟩
abbrev cX5_span : ByteArray := prog_1_method_52_code
def yX5_span : MethodName := ⟨RX5, "span", "(I)I"⟩
abbrev cX5_lead : ByteArray := prog_1_method_53_code
def yX5_lead : MethodName := ⟨RX5, "lead", "(III)I"⟩
def RX6 : String := "PinAngelsModel"
def TX6 : u_T := fun k => match k with
  | 0 => ("PinAngelsModel", "w", "[I", true)
  | 1 => ("PinAngelsModel", "isKept", "Z", false)
  | 2 => ("PinAngelsModel", "text", "[I", true)
  | 3 => ("PinAngelsModel", "texted", "I", false)
  | 4 => ("PinAngelsModel", "items", "[J", true)
  | 5 => ("PinAngelsModel", "sheetSize", "[I", true)
  | 6 => ("PinAngelsModel", "sheetLane", "[I", true)
  | 7 => ("PinAngelsModel", "order", "[I", true)
  | 8 => ("PinAngelsModel", "place", "I", false)
  | 9 => ("PinAngelsModel", "far", "[I", true)
  | 10 => ("PinAngelsModel", "queue", "[I", true)
  | 11 => ("PinAngelsModel", "left", "[I", true)
  | 12 => ("PinAngelsModel", "pairs", "[I", true)
  | 13 => ("PinAngelsModel", "ways", "[J", true)
  | 14 => ("PinAngelsModel", "waysThen", "[J", true)
  | _ => ("PinAngelsModel", "held", "[J", true)
def tyX6 : Nat → FieldType := fun k => match k with
  | 0 => .array .int
  | 1 => .boolean
  | 2 => .array .int
  | 3 => .int
  | 4 => .array .long
  | 5 => .array .int
  | 6 => .array .int
  | 7 => .array .int
  | 8 => .int
  | 9 => .array .int
  | 10 => .array .int
  | 11 => .array .int
  | 12 => .array .int
  | 13 => .array .long
  | 14 => .array .long
  | _ => .array .long
abbrev wsX60 : List Cond := u_ws RX6 TX6 16
theorem nmX6 : ∀ a, a < 16 → ∀ b, b < 16 → a ≠ b → (TX6 a).2.1 ≠ (TX6 b).2.1 := by decide +kernel
theorem tyX6_ok : ∀ k, k < 16 → parseFieldDescriptor (TX6 k).2.2.1 = some (tyX6 k) := by decide +kernel
abbrev cX6_init : ByteArray := prog_8_method_1_code
def yX6_init : MethodName := ⟨RX6, "<init>", "()V"⟩
abbrev cX6_in : ByteArray := prog_8_method_3_code
def yX6_in : MethodName := ⟨RX6, "in", "(JJJ)Z"⟩
abbrev cX6_has : ByteArray := prog_8_method_4_code
def yX6_has : MethodName := ⟨RX6, "has", "(II)Z"⟩
abbrev cX6_ones : ByteArray := prog_8_method_5_code
def yX6_ones : MethodName := ⟨RX6, "ones", "(I)I"⟩
abbrev cX6_bring : ByteArray := prog_8_method_6_code
def yX6_bring : MethodName := ⟨RX6, "bring", "(III)V"⟩
abbrev cX6_isPlace : ByteArray := prog_8_method_7_code
def yX6_isPlace : MethodName := ⟨RX6, "isPlace", "(I)Z"⟩
abbrev cX6_isAngel : ByteArray := prog_8_method_8_code
def yX6_isAngel : MethodName := ⟨RX6, "isAngel", "(I)Z"⟩
abbrev cX6_isFigure : ByteArray := prog_8_method_9_code
def yX6_isFigure : MethodName := ⟨RX6, "isFigure", "(I)Z"⟩
abbrev cX6_round : ByteArray := prog_8_method_10_code
def yX6_round : MethodName := ⟨RX6, "round", "(II)I"⟩
abbrev cX6_mirror : ByteArray := prog_8_method_11_code
def yX6_mirror : MethodName := ⟨RX6, "mirror", "(II)I"⟩
abbrev cX6_leadsBy : ByteArray := prog_8_method_12_code
def yX6_leadsBy : MethodName := ⟨RX6, "leadsBy", "(III)I"⟩
abbrev cX6_leadsOf : ByteArray := prog_8_method_13_code
def yX6_leadsOf : MethodName := ⟨RX6, "leadsOf", "(II)I"⟩
abbrev cX6_orderOf : ByteArray := prog_8_method_14_code
def yX6_orderOf : MethodName := ⟨RX6, "orderOf", "(I)I"⟩
abbrev cX6_keptBy : ByteArray := prog_8_method_15_code
def yX6_keptBy : MethodName := ⟨RX6, "keptBy", "(I)I"⟩
abbrev cX6_areAlike : ByteArray := prog_8_method_16_code
def yX6_areAlike : MethodName := ⟨RX6, "areAlike", "(II)Z"⟩
abbrev cX6_sameAs : ByteArray := prog_8_method_17_code
def yX6_sameAs : MethodName := ⟨RX6, "sameAs", "(I)I"⟩
abbrev cX6_taken : ByteArray := prog_8_method_18_code
def yX6_taken : MethodName := ⟨RX6, "taken", "()I"⟩
abbrev cX6_angel : ByteArray := prog_8_method_19_code
def yX6_angel : MethodName := ⟨RX6, "angel", "(I)I"⟩
abbrev cX6_figure : ByteArray := prog_8_method_20_code
def yX6_figure : MethodName := ⟨RX6, "figure", "(II)I"⟩
abbrev cX6_tune : ByteArray := prog_8_method_21_code
def yX6_tune : MethodName := ⟨RX6, "tune", "(I)I"⟩
abbrev cX6_hush : ByteArray := prog_8_method_22_code
def yX6_hush : MethodName := ⟨RX6, "hush", "()I"⟩
abbrev cX6_of : ByteArray := prog_8_method_23_code
def yX6_of : MethodName := ⟨RX6, "of", "(II)I"⟩
abbrev cX6_leads : ByteArray := prog_8_method_24_code
def yX6_leads : MethodName := ⟨RX6, "leads", "(II)I"⟩
abbrev cX6_at : ByteArray := prog_8_method_25_code
def yX6_at : MethodName := ⟨RX6, "at", "(I)I"⟩
abbrev cX6_seenOf : ByteArray := prog_8_method_26_code
def yX6_seenOf : MethodName := ⟨RX6, "seenOf", "(II)I"⟩
abbrev cX6_seen : ByteArray := prog_8_method_27_code
def yX6_seen : MethodName := ⟨RX6, "seen", "(I)I"⟩
abbrev cX6_type : ByteArray := prog_8_method_28_code
def yX6_type : MethodName := ⟨RX6, "type", "(I)I"⟩
abbrev cX6_peek : ByteArray := prog_8_method_29_code
def yX6_peek : MethodName := ⟨RX6, "peek", "()I"⟩
abbrev cX6_takes : ByteArray := prog_8_method_30_code
def yX6_takes : MethodName := ⟨RX6, "takes", "(I)Z"⟩
abbrev cX6_kindOf : ByteArray := prog_8_method_31_code
def yX6_kindOf : MethodName := ⟨RX6, "kindOf", "(I)I"⟩
abbrev cX6_takesPlaces : ByteArray := prog_8_method_32_code
def yX6_takesPlaces : MethodName := ⟨RX6, "takesPlaces", "()Z"⟩
abbrev cX6_takesFigure : ByteArray := prog_8_method_33_code
def yX6_takesFigure : MethodName := ⟨RX6, "takesFigure", "()Z"⟩
abbrev cX6_takesTune : ByteArray := prog_8_method_34_code
def yX6_takesTune : MethodName := ⟨RX6, "takesTune", "()Z"⟩
abbrev cX6_takesRing : ByteArray := prog_8_method_35_code
def yX6_takesRing : MethodName := ⟨RX6, "takesRing", "()Z"⟩
abbrev cX6_ring : ByteArray := prog_8_method_36_code
def yX6_ring : MethodName := ⟨RX6, "ring", "()I"⟩
abbrev cX6_goneOnes : ByteArray := prog_8_method_37_code
def yX6_goneOnes : MethodName := ⟨RX6, "goneOnes", "()I"⟩
abbrev cX6_count : ByteArray := prog_8_method_38_code
def yX6_count : MethodName := ⟨RX6, "count", "(I)I"⟩
abbrev cX6_minds : ByteArray := prog_8_method_39_code
def yX6_minds : MethodName := ⟨RX6, "minds", "()V"⟩
abbrev cX6_passes : ByteArray := prog_8_method_40_code
def yX6_passes : MethodName := ⟨RX6, "passes", "()V"⟩
abbrev cX6_blows : ByteArray := prog_8_method_41_code
def yX6_blows : MethodName := ⟨RX6, "blows", "(I)V"⟩
abbrev cX6_beats : ByteArray := prog_8_method_42_code
def yX6_beats : MethodName := ⟨RX6, "beats", "(I)I"⟩
abbrev cX6_draught : ByteArray := prog_8_method_43_code
def yX6_draught : MethodName := ⟨RX6, "draught", "(I)I"⟩
abbrev cX6_leave : ByteArray := prog_8_method_44_code
def yX6_leave : MethodName := ⟨RX6, "leave", "(I)I"⟩
abbrev cX6_come : ByteArray := prog_8_method_45_code
def yX6_come : MethodName := ⟨RX6, "come", "(II)I"⟩
abbrev cX6_drift : ByteArray := prog_8_method_46_code
def yX6_drift : MethodName := ⟨RX6, "drift", "(I)I"⟩
abbrev cX6_undo : ByteArray := prog_8_method_47_code
def yX6_undo : MethodName := ⟨RX6, "undo", "()I"⟩
abbrev cX6_seed : ByteArray := prog_8_method_48_code
def yX6_seed : MethodName := ⟨RX6, "seed", "(I)I"⟩
abbrev cX6_goesBy : ByteArray := prog_8_method_49_code
def yX6_goesBy : MethodName := ⟨RX6, "goesBy", "(II)I"⟩
abbrev cX6_ringOf : ByteArray := prog_8_method_50_code
def yX6_ringOf : MethodName := ⟨RX6, "ringOf", "(I)I"⟩
abbrev cX6_behind : ByteArray := prog_8_method_51_code
def yX6_behind : MethodName := ⟨RX6, "behind", "(II)I"⟩
abbrev cX6_isTime : ByteArray := prog_8_method_52_code
def yX6_isTime : MethodName := ⟨RX6, "isTime", "(I)Z"⟩
abbrev cX6_ahead : ByteArray := prog_8_method_53_code
def yX6_ahead : MethodName := ⟨RX6, "ahead", "(II)I"⟩
abbrev cX6_then : ByteArray := prog_8_method_54_code
def yX6_then : MethodName := ⟨RX6, "then", "(III)I"⟩
abbrev cX6_back : ByteArray := prog_8_method_55_code
def yX6_back : MethodName := ⟨RX6, "back", "(I)I"⟩
abbrev cX6_been : ByteArray := prog_8_method_56_code
def yX6_been : MethodName := ⟨RX6, "been", "(I)I"⟩
abbrev cX6_ledBy : ByteArray := prog_8_method_57_code
def yX6_ledBy : MethodName := ⟨RX6, "ledBy", "(II)I"⟩
abbrev cX6_laysFar : ByteArray := prog_8_method_58_code
def yX6_laysFar : MethodName := ⟨RX6, "laysFar", "(I)I"⟩
abbrev cX6_laysLeft : ByteArray := prog_8_method_59_code
def yX6_laysLeft : MethodName := ⟨RX6, "laysLeft", "(I)V"⟩
abbrev cX6_shortest : ByteArray := prog_8_method_60_code
def yX6_shortest : MethodName := ⟨RX6, "shortest", "(II)I"⟩
abbrev cX6_sorts : ByteArray := prog_8_method_61_code
def yX6_sorts : MethodName := ⟨RX6, "sorts", "()I"⟩
abbrev cX6_apartBy : ByteArray := prog_8_method_62_code
def yX6_apartBy : MethodName := ⟨RX6, "apartBy", "(II)I"⟩
abbrev cX6_apart : ByteArray := prog_8_method_63_code
def yX6_apart : MethodName := ⟨RX6, "apart", "(III)I"⟩
abbrev cX6_chance : ByteArray := prog_8_method_64_code
def yX6_chance : MethodName := ⟨RX6, "chance", "(IIII)I"⟩
abbrev cX6_image : ByteArray := prog_8_method_65_code
def yX6_image : MethodName := ⟨RX6, "image", "()I"⟩
abbrev cX6_restore : ByteArray := prog_8_method_66_code
def yX6_restore : MethodName := ⟨RX6, "restore", "()I"⟩
abbrev cX6_isSheet : ByteArray := prog_8_method_67_code
def yX6_isSheet : MethodName := ⟨RX6, "isSheet", "(I)Z"⟩
abbrev cX6_isLane : ByteArray := prog_8_method_68_code
def yX6_isLane : MethodName := ⟨RX6, "isLane", "(II)Z"⟩
abbrev cX6_against : ByteArray := prog_8_method_69_code
def yX6_against : MethodName := ⟨RX6, "against", "(IIII)I"⟩
abbrev cX6_lowest : ByteArray := prog_8_method_70_code
def yX6_lowest : MethodName := ⟨RX6, "lowest", "(IJ)J"⟩
abbrev cX6_counts : ByteArray := prog_8_method_71_code
def yX6_counts : MethodName := ⟨RX6, "counts", "(IIIIII)I"⟩
abbrev cX6_steps : ByteArray := prog_8_method_72_code
def yX6_steps : MethodName := ⟨RX6, "steps", "(IIIIIII)I"⟩
abbrev cX6_film : ByteArray := prog_8_method_73_code
def yX6_film : MethodName := ⟨RX6, "film", "(IIIII)I"⟩
abbrev cX6_sheet : ByteArray := prog_8_method_74_code
def yX6_sheet : MethodName := ⟨RX6, "sheet", "(III)I"⟩
abbrev cX6_drop : ByteArray := prog_8_method_75_code
def yX6_drop : MethodName := ⟨RX6, "drop", "(I)I"⟩
abbrev cX6_item : ByteArray := prog_8_method_76_code
def yX6_item : MethodName := ⟨RX6, "item", "(IIIJ)I"⟩
abbrev cX6_copy : ByteArray := prog_8_method_77_code
def yX6_copy : MethodName := ⟨RX6, "copy", "(IIIII)I"⟩
def RJ6 : String := "java/lang/Integer"
abbrev cJ6_bitCount_0f7a4 : ByteArray := prog_9_method_49_code
def yJ6_bitCount_0f7a4 : MethodName := ⟨RJ6, "bitCount", "(I)I"⟩
def RJ9 : String := "java/lang/Math"
abbrev cJ9_max_7cf53 : ByteArray := prog_10_method_65_code
def yJ9_max_7cf53 : MethodName := ⟨RJ9, "max", "(II)I"⟩
abbrev cJ9_min_7cf53 : ByteArray := prog_10_method_69_code
def yJ9_min_7cf53 : MethodName := ⟨RJ9, "min", "(II)I"⟩
def RJ10 : String := "java/lang/System"
def RL : String := "PinAngelsLaw"
abbrev cL_law : ByteArray := code
def yL_law : MethodName := ⟨RL, "law", "([I)Z"⟩
abbrev vwCl : List vw_C := [(RX0, TX0, 5), (RX1, TX1, 11), (RX2, TX2, 5), (RX3, TX3, 3), (RX4, TX4, 3), (RX5, TX5, 9), (RX6, TX6, 16)]
end
section
/-! THE LAYER: a picture of the cells by numbers (zpic), a judgement over it (zW), a row an instruction -/
def tblG : List Cond := lw_tbl.filter goodWord
theorem tbl_mem {w : Cond} (h : w ∈ lw_tbl) (g : goodWord w = true) : w ∈ tblG := List.mem_filter.mpr ⟨h, g⟩
theorem tblG_good {w : Cond} (h : w ∈ tblG) : (w.onTables && w.keeps) = true ∨ ∃ ty, w = .arrayClass ty := good_of_word (List.mem_filter.mp h).2
theorem tblG_in {y : MethodName} {bytes : ByteArray} {maxL : Nat} {ret : Option FieldType} (h : Cond.code y bytes maxL ret ∈ tblG) : GoodIn tblG (Cond.code y bytes maxL ret :: tblG) := fun w hw => by
  rcases List.mem_cons.mp hw with rfl | hw
  · exact ⟨h, tblG_good h⟩
  · exact ⟨hw, tblG_good hw⟩
/-- the state: ints by cell and place, longs by cell and place -/
abbrev zS : Type := (Nat → Nat → Int32) × (Nat → Nat → Int64)
abbrev zF : Type := Option Nat
abbrev zD : Type := (Nat × List zF) ⊕ (Bool × Nat)
abbrev zG : Type := (Nat → Nat) × ClassId × ClassId × va_G
def zfl (ad : Nat → Nat) (u : zS) (c : Nat) : List zF → Nat → List Value
  | [], _ => []
  | some r :: t, i => .ref (ad r) :: zfl ad u c t (i + 1)
  | none :: t, i => .int (u.1 c i) :: zfl ad u c t (i + 1)
def zce (G : zG) (u : zS) (c : Nat) : zD → va_E
  | .inl (k, fs) => .inr (k, zfl G.1 u c fs 0)
  | .inr (false, n) => .inl (G.2.1, n, .inl (u.1 c))
  | .inr (true, n) => .inl (G.2.2.1, n, .inr (.inl (u.2 c)))
def zpc (G : zG) (u : zS) : List zD → Nat → va_W
  | [], _ => []
  | d :: t, c => (G.1 c, zce G u c d) :: zpc G u t (c + 1)
def zpic (ds : List zD) (G : zG) (u : zS) : va_W := zpc G u ds 0
def wI (u : zS) (c i : Nat) (v : Int32) : zS := (fun a j => if a = c then (if j = i then v else u.1 a j) else u.1 a j, u.2)
def wL (u : zS) (c i : Nat) (v : Int64) : zS := (u.1, fun a j => if a = c then (if j = i then v else u.2 a j) else u.2 a j)
def cpI (u : zS) (a sp b dp n : Nat) : zS := (fun c j => if c = b then va_cpy (u.1 a) (u.1 b) sp dp n j else u.1 c j, u.2)
def cpL (u : zS) (a sp b dp n : Nat) : zS := (u.1, fun c j => if c = b then va_cpy (u.2 a) (u.2 b) sp dp n j else u.2 c j)
theorem zfl_congr {ad : Nat → Nat} {u w : zS} {c : Nat} (h : w.1 c = u.1 c) : ∀ (fs : List zF) (i : Nat), zfl ad w c fs i = zfl ad u c fs i
  | [], _ => rfl
  | some r :: t, i => by simp only [zfl]; rw [zfl_congr h t]
  | none :: t, i => by simp only [zfl]; rw [zfl_congr h t, h]
theorem zce_congr {G : zG} {u w : zS} {c : Nat} (h1 : w.1 c = u.1 c) (h2 : w.2 c = u.2 c) (d : zD) : zce G w c d = zce G u c d := by
  match d with
  | .inl (k, fs) => simp only [zce]; rw [zfl_congr h1]
  | .inr (false, n) => simp only [zce]; rw [h1]
  | .inr (true, n) => simp only [zce]; rw [h2]
theorem zpc_get {G : zG} {u : zS} : ∀ (ds : List zD) (c k : Nat) (d : zD), ds[k]? = some d → (zpc G u ds c)[k]? = some (G.1 (c + k), zce G u (c + k) d)
  | [], _, _, _, h => by simp at h
  | e :: t, c, 0, d, h => by
    have : e = d := by simpa using h
    subst this
    rfl
  | e :: t, c, k + 1, d, h => by
    have h2 : t[k]? = some d := by simpa using h
    have := zpc_get (G := G) (u := u) t (c + 1) k d h2
    rw [show c + (k + 1) = c + 1 + k by omega]
    simpa [zpc] using this
theorem zpc_congr {G : zG} {u w : zS} : ∀ (ds : List zD) (c : Nat), (∀ a, c ≤ a → w.1 a = u.1 a ∧ w.2 a = u.2 a) → zpc G w ds c = zpc G u ds c
  | [], _, _ => rfl
  | d :: t, c, h => by
    simp only [zpc]
    rw [zce_congr (h c (Nat.le_refl c)).1 (h c (Nat.le_refl c)).2, zpc_congr t (c + 1) (fun a ha => h a (by omega))]
theorem zpc_set {G : zG} {u w : zS} {e : va_E} : ∀ (ds : List zD) (c k : Nat) (d : zD), ds[k]? = some d → (∀ a, a ≠ c + k → w.1 a = u.1 a ∧ w.2 a = u.2 a) → zce G w (c + k) d = e → (zpc G u ds c).set k (G.1 (c + k), e) = zpc G w ds c
  | [], _, _, _, h, _, _ => by simp at h
  | x :: t, c, 0, d, h, hn, he => by
    have : x = d := by simpa using h
    subst this
    simp only [zpc, List.set_cons_zero]
    rw [zpc_congr (u := u) (w := w) t (c + 1) (fun a ha => hn a (by omega))]
    rw [← he]
    rfl
  | x :: t, c, k + 1, d, h, hn, he => by
    have h2 : t[k]? = some d := by simpa using h
    have e1 : c + (k + 1) = c + 1 + k := by omega
    rw [e1] at hn he ⊢
    simp only [zpc, List.set_cons_succ]
    rw [zpc_set t (c + 1) k d h2 hn he, zce_congr (hn c (by omega)).1 (hn c (by omega)).2]
theorem zpic_get {ds : List zD} {G : zG} {u : zS} {c : Nat} {d : zD} (h : ds[c]? = some d) : (zpic ds G u)[c]? = some (G.1 c, zce G u c d) := by
  have := zpc_get (G := G) (u := u) ds 0 c d h
  rwa [Nat.zero_add] at this
theorem zpic_set {ds : List zD} {G : zG} {u w : zS} {e : va_E} {c : Nat} {d : zD} (h : ds[c]? = some d) (hn : ∀ a, a ≠ c → w.1 a = u.1 a ∧ w.2 a = u.2 a) (he : zce G w c d = e) : (zpic ds G u).set c (G.1 c, e) = zpic ds G w := by
  have := zpc_set (G := G) (u := u) (w := w) (e := e) ds 0 c d h (by rw [Nat.zero_add]; exact hn) (by rw [Nat.zero_add]; exact he)
  rwa [Nat.zero_add] at this
theorem zfl_int {ad : Nat → Nat} {u : zS} {c : Nat} : ∀ (fs : List zF) (i k : Nat), fs[k]? = some none → (zfl ad u c fs i)[k]? = some (.int (u.1 c (i + k)))
  | [], _, _, h => by simp at h
  | x :: t, i, 0, h => by
    have : x = none := by simpa using h
    subst this
    rfl
  | x :: t, i, k + 1, h => by
    have h2 : t[k]? = some none := by simpa using h
    have := zfl_int (ad := ad) (u := u) (c := c) t (i + 1) k h2
    rw [show i + (k + 1) = i + 1 + k by omega]
    cases x <;> simpa [zfl] using this
theorem zfl_ref {ad : Nat → Nat} {u : zS} {c r : Nat} : ∀ (fs : List zF) (i k : Nat), fs[k]? = some (some r) → (zfl ad u c fs i)[k]? = some (.ref (ad r))
  | [], _, _, h => by simp at h
  | x :: t, i, 0, h => by
    have : x = some r := by simpa using h
    subst this
    rfl
  | x :: t, i, k + 1, h => by
    have h2 : t[k]? = some (some r) := by simpa using h
    have := zfl_ref (ad := ad) (u := u) (c := c) t (i + 1) k h2
    cases x <;> simpa [zfl] using this
theorem zfl_len {ad : Nat → Nat} {u : zS} {c : Nat} : ∀ (fs : List zF) (i : Nat), (zfl ad u c fs i).length = fs.length
  | [], _ => rfl
  | x :: t, i => by cases x <;> simp [zfl, zfl_len t]
theorem wI_ne {u : zS} {c i a : Nat} {v : Int32} (h : a ≠ c) : (wI u c i v).1 a = u.1 a := by funext j; simp [wI, h]
theorem wI_at {u : zS} {c i : Nat} {v : Int32} : (wI u c i v).1 c = upd (u.1 c) i v := by funext j; simp [wI, upd]
theorem wL_ne {u : zS} {c i a : Nat} {v : Int64} (h : a ≠ c) : (wL u c i v).2 a = u.2 a := by funext j; simp [wL, h]
theorem wL_at {u : zS} {c i : Nat} {v : Int64} : (wL u c i v).2 c = vp_updL (u.2 c) i v := by funext j; simp [wL, vp_updL]
theorem zfl_lt {ad : Nat → Nat} {u : zS} {c k : Nat} {v : Int32} : ∀ (fs : List zF) (i : Nat), k < i → zfl ad (wI u c k v) c fs i = zfl ad u c fs i
  | [], _, _ => rfl
  | some r :: t, i, h => by simp only [zfl]; rw [zfl_lt t (i + 1) (by omega)]
  | none :: t, i, h => by
    simp only [zfl]
    rw [zfl_lt t (i + 1) (by omega), show (wI u c k v).1 c i = u.1 c i by simp [wI, show i ≠ k by omega]]
theorem zfl_set {ad : Nat → Nat} {u : zS} {c : Nat} {v : Int32} : ∀ (fs : List zF) (i k : Nat), fs[k]? = some none → (zfl ad u c fs i).set k (.int v) = zfl ad (wI u c (i + k) v) c fs i
  | [], _, _, h => by simp at h
  | x :: t, i, 0, h => by
    have : x = none := by simpa using h
    subst this
    simp only [zfl, List.set_cons_zero, Nat.add_zero]
    rw [zfl_lt t (i + 1) (by omega), show (wI u c i v).1 c i = v by simp [wI]]
  | x :: t, i, k + 1, h => by
    have h2 : t[k]? = some none := by simpa using h
    have e := zfl_set (ad := ad) (u := u) (c := c) (v := v) t (i + 1) k h2
    rw [show i + (k + 1) = i + 1 + k by omega]
    cases x with
    | none =>
      simp only [zfl, List.set_cons_succ]
      rw [e, show (wI u c (i + 1 + k) v).1 c i = u.1 c i by simp [wI, show i ≠ i + 1 + k by omega]]
    | some r => simp only [zfl, List.set_cons_succ]; rw [e]
/-- the calls between nest mates that the class makes -/
def zNst : List Cond := [.methodLinkNest RX1 67 yX5_lead RX5, .methodLinkNest RX1 71 yX5_bitOf RX5, .methodLinkNest RX1 75 yX5_holds RX5, .methodLinkNest RX1 86 yX5_greatestCommon RX5, .methodLinkNest RX1 95 yX5_leftBy8 RX5, .methodLinkNest RX2 41 yX5_span RX5]
theorem zNst_in : ∀ w ∈ zNst, w ∈ lw_tbl := by decide +kernel
theorem zNst_warm {s U : State} (hW : s.WarmedH U.vm) (h : ∀ w ∈ zNst, va_Nw w s) : ∀ w ∈ zNst, va_Nw w U := by
  intro w hw
  have h0 := h w hw
  simp only [zNst, List.mem_cons, List.not_mem_nil, or_false] at hw
  rcases hw with rfl | rfl | rfl | rfl | rfl | rfl <;> exact va_Nw.warmM hW h0
theorem zNst_same {s U : State} (hW : s.vm = U.vm) (h : ∀ w ∈ zNst, va_Nw w s) : ∀ w ∈ zNst, va_Nw w U := by
  intro w hw
  have h0 := h w hw
  simp only [zNst, List.mem_cons, List.not_mem_nil, or_false] at hw
  rcases hw with rfl | rfl | rfl | rfl | rfl | rfl <;> exact va_Nw.same rfl hW h0
/-- what is fixed over a method's walk -/
abbrev zX : Type := (Program × Env × State) × (MethodId × Array Value × List Frame × Method × Code) × (Nat → Prop)
abbrev zty (G : zG) : List (ClassId × FieldType) := [(G.2.1, .int), (G.2.2.1, .long)]
def zC (G : zG) (X : zX) (cc : ByteArray) (nL : Nat) (own : String) (ret : Option FieldType) : Prop :=
  X.1.1.tables.exec = Jvm.exec ∧ X.2.1.2.2.2.2.code = cc ∧ X.2.1.2.2.2.2.maxLocals = nL ∧ X.1.2.2.vm.findClass own = some X.2.1.1.cls ∧ (∀ w ∈ tblG, w.before X.2.1.2.1 X.1.2.2 = true) ∧ va_K G.2.2.2 vwCl (zty G) X.1.2.2 ∧ (∀ q, X.1.2.2.heap.size ≤ q → X.2.2 q) ∧ X.2.1.2.2.2.1.sig.returnType = ret ∧ X.2.1.2.2.2.1.locks = false ∧ (∀ w ∈ zNst, va_Nw w X.1.2.2)
def zWd (ds : List zD) (G : zG) (A : Nat → Prop) (u : zS) (t : State) : Prop := va_P G.2.2.2 vwCl (zpic ds G u) t.heap ∧ va_K G.2.2.2 vwCl (zty G) t ∧ va_D A (zpic ds G u)
def zQc (ds : List zD) (G : zG) (A : Nat → Prop) (K : Option Value → zS → Prop) : Array Value → State → Outcome → State → Prop := fun _ st oc t => (∃ (v : Option Value) (u : zS), oc = .returned v ∧ K v u ∧ zWd ds G A u t) ∧ va_F A st t
def zW (ds : List zD) (l : Launch) (R : Room) (G : zG) (X : zX) (K : Option Value → zS → Prop) (u : zS) (pc : Nat) (lv : List (Nat × Value)) (st : List Value) : Prop :=
  ∀ (H : Heap) (locs : List Loc) (ls : Array Slot), va_P G.2.2.2 vwCl (zpic ds G u) H → va_D X.2.2 (zpic ds G u) → va_S X.2.2 X.1.2.2.heap H locs → lv_has ls X.2.1.2.2.2.2.maxLocals lv →
    W X.1.1 l X.1.2.1 R X.1.2.2 X.2.1.1 X.2.1.2.1 X.2.1.2.2.1 X.2.1.2.2.2.1 X.2.1.2.2.2.2 H locs 0 0 (MQ X.2.1.2.2.1 (zQc ds G X.2.2 K) X.2.1.2.1 X.1.2.2 0 0 X.2.2) (F0 X.2.1.1 pc ls st)
def zPre (ds : List zD) (G : zG) (u : zS) (sz : Nat) (U : State) : Prop := U.heap.size = sz ∧ va_P G.2.2.2 vwCl (zpic ds G u) U.heap ∧ va_K G.2.2.2 vwCl (zty G) U ∧ va_D (fun _ => True) (zpic ds G u) ∧ ∀ w ∈ zNst, va_Nw w U
/-- a method's contract: from the picture of u, with these arguments, it answers v and leaves the picture of w -/
def zM (l : Launch) (ds : List zD) (y : MethodName) (bytes : ByteArray) (maxL : Nat) (ret : Option FieldType) (rm : Room) (G : zG) (av : List Value) (u : zS) (v : Option Value) (w : zS) : Prop :=
  ∀ sz : Nat, Met l y (Cond.code y bytes maxL ret :: tblG) rm (va_Pc av (zPre ds G u sz)) (zQc ds G (va_A (zpic ds G u) sz) (fun v2 w2 => v2 = v ∧ w2 = w)) 0 0 (va_A (zpic ds G u) sz)
theorem zM.of {l : Launch} {ds : List zD} {y : MethodName} {bytes : ByteArray} {maxL : Nat} {ret : Option FieldType} {rm : Room} {G : zG} {av : List Value} {u : zS} {v : Option Value} {w : zS} (hy : plainName y.cls = true) (hn : (lg_sl av).length ≤ maxL)
    (body : ∀ X : zX, zC G X bytes maxL y.cls ret → zW ds l rm G X (fun v2 w2 => v2 = v ∧ w2 = w) u 0 (lv_args 0 av) []) : zM l ds y bytes maxL ret rm G av u v w := by
  intro sz
  refine Met.ofW (cc := bytes) (maxL := maxL) (ret := ret) hy rfl ?_
  intro p e s m args below meth c s₁ B hml hv
  obtain ⟨rfl, hsz, hP, hK, hD0, hN⟩ := hv
  subst hsz
  have hts := atoms_spec (ws := Cond.code y bytes maxL ret :: tblG) B.pre
  have hl := lv_entry av (n := maxL) hn
  rw [lg_entry_eq]
  exact body ((p, e, s), (m, av.toArray, below, meth, c), va_A (zpic ds G u) s.heap.size) ⟨B.exec, B.bytes, hml, findClass_of_methodNamed B.named, fun w hw => hts w (List.mem_cons_of_mem _ hw), hK, fun q h => Or.inr h, B.returns, B.notSynchronized, hN⟩ s.heap [] _ hP hD0.self va_S.rf (by rw [show (((p, e, s), (m, av.toArray, below, meth, c), va_A (zpic ds G u) s.heap.size) : zX).2.1.2.2.2.2.maxLocals = maxL from hml]; exact hl)
end
section
/-! ROWS: an instruction a row, over zW -/
section
variable {ds : List zD} {l : Launch} {R : Room} {G : zG} {X : zX} {K : Option Value → zS → Prop} {u : zS} {pc : Nat} {lv : List (Nat × Value)} {st : List Value} {cc : ByteArray} {nL : Nat} {own : String} {ret : Option FieldType}
theorem r_iconst (hC : zC G X cc nL own ret) {n : Int} {v : Int32} (hd : decode cc pc = .ok (.iconst n, 1)) (hv : Int32.ofInt n = v) (k : zW ds l R G X K u (pc + 1) lv (.int v :: st)) : zW ds l R G X K u pc lv (st) := fun H locs ls h1 h2 h3 h4 => lv_iconst hC.1 hC.2.1 hd hv (k H locs ls h1 h2 h3 h4)
theorem r_bipush (hC : zC G X cc nL own ret) {n : Int} {v : Int32} (hd : decode cc pc = .ok (.bipush n, 2)) (hv : (Int8.ofInt n).toInt32 = v) (k : zW ds l R G X K u (pc + 2) lv (.int v :: st)) : zW ds l R G X K u pc lv (st) := fun H locs ls h1 h2 h3 h4 => lv_bipush hC.1 hC.2.1 hd hv (k H locs ls h1 h2 h3 h4)
theorem r_sipush (hC : zC G X cc nL own ret) {n : Int} {v : Int32} (hd : decode cc pc = .ok (.sipush n, 3)) (hv : (Int16.ofInt n).toInt32 = v) (k : zW ds l R G X K u (pc + 3) lv (.int v :: st)) : zW ds l R G X K u pc lv (st) := fun H locs ls h1 h2 h3 h4 => lv_sipush hC.1 hC.2.1 hd hv (k H locs ls h1 h2 h3 h4)
theorem r_lconst (hC : zC G X cc nL own ret) {n : Fin 2} {v : Int64} (hd : decode cc pc = .ok (.lconst n, 1)) (hv : Int64.ofNat (n : Nat) = v) (k : zW ds l R G X K u (pc + 1) lv (.long v :: st)) : zW ds l R G X K u pc lv (st) := fun H locs ls h1 h2 h3 h4 => lv_lconst hC.1 hC.2.1 hd hv (k H locs ls h1 h2 h3 h4)
theorem r_iload_n (hC : zC G X cc nL own ret) {k : Fin 4} {x : Int32} (hd : decode cc pc = .ok (.iload_n k, 1)) (j : Nat) (hj : lv[j]? = some ((k : Nat), .int x)) (k : zW ds l R G X K u (pc + 1) lv (.int x :: st)) : zW ds l R G X K u pc lv (st) := fun H locs ls h1 h2 h3 h4 => lv_iload_n hC.1 hC.2.1 hd rfl (lv_at h4 j hj) (k H locs ls h1 h2 h3 h4)
theorem r_iload (hC : zC G X cc nL own ret) {i : Nat} {x : Int32} (hd : decode cc pc = .ok (.iload i, 2)) (j : Nat) (hj : lv[j]? = some (i, .int x)) (k : zW ds l R G X K u (pc + 2) lv (.int x :: st)) : zW ds l R G X K u pc lv (st) := fun H locs ls h1 h2 h3 h4 => lv_iload hC.1 hC.2.1 hd (lv_at h4 j hj) (k H locs ls h1 h2 h3 h4)
theorem r_lload_n (hC : zC G X cc nL own ret) {k : Fin 4} {x : Int64} (hd : decode cc pc = .ok (.lload_n k, 1)) (j : Nat) (hj : lv[j]? = some ((k : Nat), .long x)) (k : zW ds l R G X K u (pc + 1) lv (.long x :: st)) : zW ds l R G X K u pc lv (st) := fun H locs ls h1 h2 h3 h4 => lv_lload_n hC.1 hC.2.1 hd rfl (lv_at h4 j hj) (k H locs ls h1 h2 h3 h4)
theorem r_lload (hC : zC G X cc nL own ret) {i : Nat} {x : Int64} (hd : decode cc pc = .ok (.lload i, 2)) (j : Nat) (hj : lv[j]? = some (i, .long x)) (k : zW ds l R G X K u (pc + 2) lv (.long x :: st)) : zW ds l R G X K u pc lv (st) := fun H locs ls h1 h2 h3 h4 => lv_lload hC.1 hC.2.1 hd (lv_at h4 j hj) (k H locs ls h1 h2 h3 h4)
theorem r_aload_n (hC : zC G X cc nL own ret) {k : Fin 4} {x : Nat} (hd : decode cc pc = .ok (.aload_n k, 1)) (j : Nat) (hj : lv[j]? = some ((k : Nat), .ref x)) (k : zW ds l R G X K u (pc + 1) lv (.ref x :: st)) : zW ds l R G X K u pc lv (st) := fun H locs ls h1 h2 h3 h4 => lv_aload_n hC.1 hC.2.1 hd rfl (lv_at h4 j hj) (k H locs ls h1 h2 h3 h4)
theorem r_aload (hC : zC G X cc nL own ret) {i : Nat} {x : Nat} (hd : decode cc pc = .ok (.aload i, 2)) (j : Nat) (hj : lv[j]? = some (i, .ref x)) (k : zW ds l R G X K u (pc + 2) lv (.ref x :: st)) : zW ds l R G X K u pc lv (st) := fun H locs ls h1 h2 h3 h4 => lv_aload hC.1 hC.2.1 hd (lv_at h4 j hj) (k H locs ls h1 h2 h3 h4)
theorem r_istore_n (hC : zC G X cc nL own ret) {k : Fin 4} {i : Nat} {x : Int32} {lv' : List (Nat × Value)} (hd : decode cc pc = .ok (.istore_n k, 1)) (hi : (k : Nat) = i) (hn : i < nL) (hl : (i, Value.int x) :: lv.filter (fun q => !(q.1 == i) && !(q.1 + 1 == i && q.2.category == 2)) = lv') (kk : zW ds l R G X K u (pc + 1) lv' st) : zW ds l R G X K u pc lv (Value.int x :: st) := fun H locs ls h1 h2 h3 h4 => lv_istore_n hC.1 hC.2.1 hd hi h4 (by rw [hC.2.2.1]; exact hn) hl (fun ls' h => kk H locs ls' h1 h2 h3 h)
theorem r_istore (hC : zC G X cc nL own ret) {i : Nat} {x : Int32} {lv' : List (Nat × Value)} (hd : decode cc pc = .ok (.istore i, 2)) (hn : i < nL) (hl : (i, Value.int x) :: lv.filter (fun q => !(q.1 == i) && !(q.1 + 1 == i && q.2.category == 2)) = lv') (kk : zW ds l R G X K u (pc + 2) lv' st) : zW ds l R G X K u pc lv (Value.int x :: st) := fun H locs ls h1 h2 h3 h4 => lv_istore hC.1 hC.2.1 hd h4 (by rw [hC.2.2.1]; exact hn) hl (fun ls' h => kk H locs ls' h1 h2 h3 h)
theorem r_lstore_n (hC : zC G X cc nL own ret) {k : Fin 4} {i : Nat} {x : Int64} {lv' : List (Nat × Value)} (hd : decode cc pc = .ok (.lstore_n k, 1)) (hi : (k : Nat) = i) (hn : i + 1 < nL) (hl : (i, Value.long x) :: lv.filter (fun q => !(q.1 == i) && (!(q.1 == i + 1) && !(q.1 + 1 == i && q.2.category == 2))) = lv') (kk : zW ds l R G X K u (pc + 1) lv' st) : zW ds l R G X K u pc lv (Value.long x :: st) := fun H locs ls h1 h2 h3 h4 => lv_lstore_n hC.1 hC.2.1 hd hi h4 (by rw [hC.2.2.1]; exact hn) hl (fun ls' h => kk H locs ls' h1 h2 h3 h)
theorem r_lstore (hC : zC G X cc nL own ret) {i : Nat} {x : Int64} {lv' : List (Nat × Value)} (hd : decode cc pc = .ok (.lstore i, 2)) (hn : i + 1 < nL) (hl : (i, Value.long x) :: lv.filter (fun q => !(q.1 == i) && (!(q.1 == i + 1) && !(q.1 + 1 == i && q.2.category == 2))) = lv') (kk : zW ds l R G X K u (pc + 2) lv' st) : zW ds l R G X K u pc lv (Value.long x :: st) := fun H locs ls h1 h2 h3 h4 => lv_lstore hC.1 hC.2.1 hd h4 (by rw [hC.2.2.1]; exact hn) hl (fun ls' h => kk H locs ls' h1 h2 h3 h)
theorem r_iinc (hC : zC G X cc nL own ret) {i : Nat} {n : Int} {x v : Int32} {lv' : List (Nat × Value)} (hd : decode cc pc = .ok (.iinc i n, 3)) (j : Nat) (hj : lv[j]? = some (i, .int x)) (hv : Int32.ofInt n = v) (hn : i < nL) (hl : (i, Value.int (x + v)) :: lv.filter (fun q => !(q.1 == i) && !(q.1 + 1 == i && q.2.category == 2)) = lv') (kk : zW ds l R G X K u (pc + 3) lv' st) : zW ds l R G X K u pc lv st := fun H locs ls h1 h2 h3 h4 => lv_iinc hC.1 hC.2.1 hd h4 hj (by rw [hv]) (by rw [hC.2.2.1]; exact hn) hl (fun ls' h => kk H locs ls' h1 h2 h3 h)
theorem r_iadd (hC : zC G X cc nL own ret) {x y : Int32} (hd : decode cc pc = .ok (.iadd, 1))  (k : zW ds l R G X K u (pc + 1) lv (.int (x + y) :: st)) : zW ds l R G X K u pc lv (.int y :: .int x :: st) := fun H locs ls h1 h2 h3 h4 => lv_iadd hC.1 hC.2.1 hd  (k H locs ls h1 h2 h3 h4)
theorem r_isub (hC : zC G X cc nL own ret) {x y : Int32} (hd : decode cc pc = .ok (.isub, 1))  (k : zW ds l R G X K u (pc + 1) lv (.int (x - y) :: st)) : zW ds l R G X K u pc lv (.int y :: .int x :: st) := fun H locs ls h1 h2 h3 h4 => lv_isub hC.1 hC.2.1 hd  (k H locs ls h1 h2 h3 h4)
theorem r_imul (hC : zC G X cc nL own ret) {x y : Int32} (hd : decode cc pc = .ok (.imul, 1))  (k : zW ds l R G X K u (pc + 1) lv (.int (x * y) :: st)) : zW ds l R G X K u pc lv (.int y :: .int x :: st) := fun H locs ls h1 h2 h3 h4 => lv_imul hC.1 hC.2.1 hd  (k H locs ls h1 h2 h3 h4)
theorem r_iand (hC : zC G X cc nL own ret) {x y : Int32} (hd : decode cc pc = .ok (.iand, 1))  (k : zW ds l R G X K u (pc + 1) lv (.int (x &&& y) :: st)) : zW ds l R G X K u pc lv (.int y :: .int x :: st) := fun H locs ls h1 h2 h3 h4 => lv_iand hC.1 hC.2.1 hd  (k H locs ls h1 h2 h3 h4)
theorem r_ior (hC : zC G X cc nL own ret) {x y : Int32} (hd : decode cc pc = .ok (.ior, 1))  (k : zW ds l R G X K u (pc + 1) lv (.int (x ||| y) :: st)) : zW ds l R G X K u pc lv (.int y :: .int x :: st) := fun H locs ls h1 h2 h3 h4 => lv_ior hC.1 hC.2.1 hd  (k H locs ls h1 h2 h3 h4)
theorem r_ixor (hC : zC G X cc nL own ret) {x y : Int32} (hd : decode cc pc = .ok (.ixor, 1))  (k : zW ds l R G X K u (pc + 1) lv (.int (x ^^^ y) :: st)) : zW ds l R G X K u pc lv (.int y :: .int x :: st) := fun H locs ls h1 h2 h3 h4 => lv_ixor hC.1 hC.2.1 hd  (k H locs ls h1 h2 h3 h4)
theorem r_ishl (hC : zC G X cc nL own ret) {x y : Int32} (hd : decode cc pc = .ok (.ishl, 1))  (k : zW ds l R G X K u (pc + 1) lv (.int (x <<< (y &&& 31)) :: st)) : zW ds l R G X K u pc lv (.int y :: .int x :: st) := fun H locs ls h1 h2 h3 h4 => lv_ishl hC.1 hC.2.1 hd  (k H locs ls h1 h2 h3 h4)
theorem r_ishr (hC : zC G X cc nL own ret) {x y : Int32} (hd : decode cc pc = .ok (.ishr, 1))  (k : zW ds l R G X K u (pc + 1) lv (.int (x >>> (y &&& 31)) :: st)) : zW ds l R G X K u pc lv (.int y :: .int x :: st) := fun H locs ls h1 h2 h3 h4 => lv_ishr hC.1 hC.2.1 hd  (k H locs ls h1 h2 h3 h4)
theorem r_idiv (hC : zC G X cc nL own ret) {x y : Int32} (hd : decode cc pc = .ok (.idiv, 1)) (hne : ¬ y = 0) (k : zW ds l R G X K u (pc + 1) lv (.int (x / y) :: st)) : zW ds l R G X K u pc lv (.int y :: .int x :: st) := fun H locs ls h1 h2 h3 h4 => lv_idiv hC.1 hC.2.1 hd hne (k H locs ls h1 h2 h3 h4)
theorem r_irem (hC : zC G X cc nL own ret) {x y : Int32} (hd : decode cc pc = .ok (.irem, 1)) (hne : ¬ y = 0) (k : zW ds l R G X K u (pc + 1) lv (.int (x - x / y * y) :: st)) : zW ds l R G X K u pc lv (.int y :: .int x :: st) := fun H locs ls h1 h2 h3 h4 => lv_irem hC.1 hC.2.1 hd hne (k H locs ls h1 h2 h3 h4)
theorem r_iushr (hC : zC G X cc nL own ret) {x y : Int32} (hd : decode cc pc = .ok (.iushr, 1))  (k : zW ds l R G X K u (pc + 1) lv (.int ((x.toUInt32 >>> (y.toUInt32 &&& Int32.toUInt32 31)).toInt32) :: st)) : zW ds l R G X K u pc lv (.int y :: .int x :: st) := fun H locs ls h1 h2 h3 h4 => lv_iushr hC.1 hC.2.1 hd rfl (k H locs ls h1 h2 h3 h4)
theorem r_ladd (hC : zC G X cc nL own ret) {x y : Int64} (hd : decode cc pc = .ok (.ladd, 1))  (k : zW ds l R G X K u (pc + 1) lv (.long (x + y) :: st)) : zW ds l R G X K u pc lv (.long y :: .long x :: st) := fun H locs ls h1 h2 h3 h4 => lv_ladd hC.1 hC.2.1 hd  (k H locs ls h1 h2 h3 h4)
theorem r_lmul (hC : zC G X cc nL own ret) {x y : Int64} (hd : decode cc pc = .ok (.lmul, 1))  (k : zW ds l R G X K u (pc + 1) lv (.long (x * y) :: st)) : zW ds l R G X K u pc lv (.long y :: .long x :: st) := fun H locs ls h1 h2 h3 h4 => lv_lmul hC.1 hC.2.1 hd  (k H locs ls h1 h2 h3 h4)
theorem r_land (hC : zC G X cc nL own ret) {x y : Int64} (hd : decode cc pc = .ok (.land, 1))  (k : zW ds l R G X K u (pc + 1) lv (.long (x &&& y) :: st)) : zW ds l R G X K u pc lv (.long y :: .long x :: st) := fun H locs ls h1 h2 h3 h4 => lv_land hC.1 hC.2.1 hd  (k H locs ls h1 h2 h3 h4)
theorem r_lor (hC : zC G X cc nL own ret) {x y : Int64} (hd : decode cc pc = .ok (.lor, 1))  (k : zW ds l R G X K u (pc + 1) lv (.long (x ||| y) :: st)) : zW ds l R G X K u pc lv (.long y :: .long x :: st) := fun H locs ls h1 h2 h3 h4 => lv_lor hC.1 hC.2.1 hd  (k H locs ls h1 h2 h3 h4)
theorem r_ldiv (hC : zC G X cc nL own ret) {x y : Int64} (hd : decode cc pc = .ok (.ldiv, 1)) (hne : ¬ y = 0) (k : zW ds l R G X K u (pc + 1) lv (.long (x / y) :: st)) : zW ds l R G X K u pc lv (.long y :: .long x :: st) := fun H locs ls h1 h2 h3 h4 => lv_ldiv hC.1 hC.2.1 hd hne (k H locs ls h1 h2 h3 h4)
theorem r_lrem (hC : zC G X cc nL own ret) {x y : Int64} (hd : decode cc pc = .ok (.lrem, 1)) (hne : ¬ y = 0) (k : zW ds l R G X K u (pc + 1) lv (.long (x - x / y * y) :: st)) : zW ds l R G X K u pc lv (.long y :: .long x :: st) := fun H locs ls h1 h2 h3 h4 => lv_lrem hC.1 hC.2.1 hd hne (k H locs ls h1 h2 h3 h4)
theorem r_lshl (hC : zC G X cc nL own ret) {x : Int64} {y : Int32} (hd : decode cc pc = .ok (.lshl, 1))  (k : zW ds l R G X K u (pc + 1) lv (.long (x <<< (y.toInt64 &&& 63)) :: st)) : zW ds l R G X K u pc lv (.int y :: .long x :: st) := fun H locs ls h1 h2 h3 h4 => lv_lshl hC.1 hC.2.1 hd rfl (k H locs ls h1 h2 h3 h4)
theorem r_lcmp (hC : zC G X cc nL own ret) {x y : Int64} (hd : decode cc pc = .ok (.lcmp, 1))  (k : zW ds l R G X K u (pc + 1) lv (.int (lg_cmp x y) :: st)) : zW ds l R G X K u pc lv (.long y :: .long x :: st) := fun H locs ls h1 h2 h3 h4 => W.lcmp hC.1 hC.2.1 hd  (k H locs ls h1 h2 h3 h4)
theorem r_i2l (hC : zC G X cc nL own ret) {x : Int32} (hd : decode cc pc = .ok (.i2l, 1))  (k : zW ds l R G X K u (pc + 1) lv (.long x.toInt64 :: st)) : zW ds l R G X K u pc lv (.int x :: st) := fun H locs ls h1 h2 h3 h4 => lv_i2l hC.1 hC.2.1 hd rfl (k H locs ls h1 h2 h3 h4)
theorem r_l2i (hC : zC G X cc nL own ret) {x : Int64} (hd : decode cc pc = .ok (.l2i, 1))  (k : zW ds l R G X K u (pc + 1) lv (.int x.toInt32 :: st)) : zW ds l R G X K u pc lv (.long x :: st) := fun H locs ls h1 h2 h3 h4 => lv_l2i hC.1 hC.2.1 hd rfl (k H locs ls h1 h2 h3 h4)
theorem r_i2b (hC : zC G X cc nL own ret) {x : Int32} (hd : decode cc pc = .ok (.i2b, 1))  (k : zW ds l R G X K u (pc + 1) lv (.int x.toInt8.toInt32 :: st)) : zW ds l R G X K u pc lv (.int x :: st) := fun H locs ls h1 h2 h3 h4 => lv_i2b hC.1 hC.2.1 hd rfl (k H locs ls h1 h2 h3 h4)
theorem r_i2s (hC : zC G X cc nL own ret) {x : Int32} (hd : decode cc pc = .ok (.i2s, 1))  (k : zW ds l R G X K u (pc + 1) lv (.int x.toInt16.toInt32 :: st)) : zW ds l R G X K u pc lv (.int x :: st) := fun H locs ls h1 h2 h3 h4 => lv_i2s hC.1 hC.2.1 hd rfl (k H locs ls h1 h2 h3 h4)
theorem r_dup (hC : zC G X cc nL own ret) {va : Value} (hd : decode cc pc = .ok (.dup, 1)) (hv : va.category = 1) (k : zW ds l R G X K u (pc + 1) lv (va :: va :: st)) : zW ds l R G X K u pc lv (va :: st) := fun H locs ls h1 h2 h3 h4 => lv_dup hC.1 hC.2.1 hd hv (k H locs ls h1 h2 h3 h4)
theorem r_pop (hC : zC G X cc nL own ret) {va : Value} (hd : decode cc pc = .ok (.pop, 1)) (hv : va.category = 1) (k : zW ds l R G X K u (pc + 1) lv (st)) : zW ds l R G X K u pc lv (va :: st) := fun H locs ls h1 h2 h3 h4 => lv_pop hC.1 hC.2.1 hd hv (k H locs ls h1 h2 h3 h4)
theorem r_dup2 (hC : zC G X cc nL own ret) {va vb : Value} (hd : decode cc pc = .ok (.dup2, 1)) (hv : va.category = 1) (hw : vb.category = 1) (k : zW ds l R G X K u (pc + 1) lv (va :: vb :: va :: vb :: st)) : zW ds l R G X K u pc lv (va :: vb :: st) := fun H locs ls h1 h2 h3 h4 => lv_dup2_11 hC.1 hC.2.1 hd hv hw (k H locs ls h1 h2 h3 h4)
theorem r_goto (hC : zC G X cc nL own ret) {off : Int} {tgt : Nat} (hd : decode cc pc = .ok (.goto off, 3)) (ht : (pc : Int) + off = (tgt : Int)) (k : zW ds l R G X K u tgt lv st) : zW ds l R G X K u pc lv st := fun H locs ls h1 h2 h3 h4 => lv_goto hC.1 hC.2.1 hd ht (k H locs ls h1 h2 h3 h4)
theorem r_if_eq (hC : zC G X cc nL own ret) {x : Int32} {off : Int} {tgt : Nat} (hd : decode cc pc = .ok (.ifCond .eq off, 3)) (ht : (pc : Int) + off = (tgt : Int)) (kt : x = 0 → zW ds l R G X K u tgt lv st) (kf : ¬ x = 0 → zW ds l R G X K u (pc + 3) lv st) : zW ds l R G X K u pc lv (.int x :: st) := fun H locs ls h1 h2 h3 h4 => lv_if_eq hC.1 hC.2.1 hd ht (fun q => kt q H locs ls h1 h2 h3 h4) (fun q => kf q H locs ls h1 h2 h3 h4)
theorem r_if_ne (hC : zC G X cc nL own ret) {x : Int32} {off : Int} {tgt : Nat} (hd : decode cc pc = .ok (.ifCond .ne off, 3)) (ht : (pc : Int) + off = (tgt : Int)) (kt : ¬ x = 0 → zW ds l R G X K u tgt lv st) (kf : x = 0 → zW ds l R G X K u (pc + 3) lv st) : zW ds l R G X K u pc lv (.int x :: st) := fun H locs ls h1 h2 h3 h4 => lv_if_ne hC.1 hC.2.1 hd ht (fun q => kt q H locs ls h1 h2 h3 h4) (fun q => kf q H locs ls h1 h2 h3 h4)
theorem r_if_lt (hC : zC G X cc nL own ret) {x : Int32} {off : Int} {tgt : Nat} (hd : decode cc pc = .ok (.ifCond .lt off, 3)) (ht : (pc : Int) + off = (tgt : Int)) (kt : x < 0 → zW ds l R G X K u tgt lv st) (kf : ¬ x < 0 → zW ds l R G X K u (pc + 3) lv st) : zW ds l R G X K u pc lv (.int x :: st) := fun H locs ls h1 h2 h3 h4 => lv_if_lt hC.1 hC.2.1 hd ht (fun q => kt q H locs ls h1 h2 h3 h4) (fun q => kf q H locs ls h1 h2 h3 h4)
theorem r_if_ge (hC : zC G X cc nL own ret) {x : Int32} {off : Int} {tgt : Nat} (hd : decode cc pc = .ok (.ifCond .ge off, 3)) (ht : (pc : Int) + off = (tgt : Int)) (kt : 0 ≤ x → zW ds l R G X K u tgt lv st) (kf : ¬ 0 ≤ x → zW ds l R G X K u (pc + 3) lv st) : zW ds l R G X K u pc lv (.int x :: st) := fun H locs ls h1 h2 h3 h4 => lv_if_ge hC.1 hC.2.1 hd ht (fun q => kt q H locs ls h1 h2 h3 h4) (fun q => kf q H locs ls h1 h2 h3 h4)
theorem r_if_gt (hC : zC G X cc nL own ret) {x : Int32} {off : Int} {tgt : Nat} (hd : decode cc pc = .ok (.ifCond .gt off, 3)) (ht : (pc : Int) + off = (tgt : Int)) (kt : 0 < x → zW ds l R G X K u tgt lv st) (kf : ¬ 0 < x → zW ds l R G X K u (pc + 3) lv st) : zW ds l R G X K u pc lv (.int x :: st) := fun H locs ls h1 h2 h3 h4 => lv_if_gt hC.1 hC.2.1 hd ht (fun q => kt q H locs ls h1 h2 h3 h4) (fun q => kf q H locs ls h1 h2 h3 h4)
theorem r_if_le (hC : zC G X cc nL own ret) {x : Int32} {off : Int} {tgt : Nat} (hd : decode cc pc = .ok (.ifCond .le off, 3)) (ht : (pc : Int) + off = (tgt : Int)) (kt : x ≤ 0 → zW ds l R G X K u tgt lv st) (kf : ¬ x ≤ 0 → zW ds l R G X K u (pc + 3) lv st) : zW ds l R G X K u pc lv (.int x :: st) := fun H locs ls h1 h2 h3 h4 => lv_if_le hC.1 hC.2.1 hd ht (fun q => kt q H locs ls h1 h2 h3 h4) (fun q => kf q H locs ls h1 h2 h3 h4)
theorem r_icmp_eq (hC : zC G X cc nL own ret) {x y : Int32} {off : Int} {tgt : Nat} (hd : decode cc pc = .ok (.if_icmp .eq off, 3)) (ht : (pc : Int) + off = (tgt : Int)) (kt : x = y → zW ds l R G X K u tgt lv st) (kf : ¬ x = y → zW ds l R G X K u (pc + 3) lv st) : zW ds l R G X K u pc lv (.int y :: .int x :: st) := fun H locs ls h1 h2 h3 h4 => lv_icmp_eq hC.1 hC.2.1 hd ht (fun q => kt q H locs ls h1 h2 h3 h4) (fun q => kf q H locs ls h1 h2 h3 h4)
theorem r_icmp_ne (hC : zC G X cc nL own ret) {x y : Int32} {off : Int} {tgt : Nat} (hd : decode cc pc = .ok (.if_icmp .ne off, 3)) (ht : (pc : Int) + off = (tgt : Int)) (kt : ¬ x = y → zW ds l R G X K u tgt lv st) (kf : x = y → zW ds l R G X K u (pc + 3) lv st) : zW ds l R G X K u pc lv (.int y :: .int x :: st) := fun H locs ls h1 h2 h3 h4 => lv_icmp_ne hC.1 hC.2.1 hd ht (fun q => kt q H locs ls h1 h2 h3 h4) (fun q => kf q H locs ls h1 h2 h3 h4)
theorem r_icmp_lt (hC : zC G X cc nL own ret) {x y : Int32} {off : Int} {tgt : Nat} (hd : decode cc pc = .ok (.if_icmp .lt off, 3)) (ht : (pc : Int) + off = (tgt : Int)) (kt : x < y → zW ds l R G X K u tgt lv st) (kf : ¬ x < y → zW ds l R G X K u (pc + 3) lv st) : zW ds l R G X K u pc lv (.int y :: .int x :: st) := fun H locs ls h1 h2 h3 h4 => lv_icmp_lt hC.1 hC.2.1 hd ht (fun q => kt q H locs ls h1 h2 h3 h4) (fun q => kf q H locs ls h1 h2 h3 h4)
theorem r_icmp_ge (hC : zC G X cc nL own ret) {x y : Int32} {off : Int} {tgt : Nat} (hd : decode cc pc = .ok (.if_icmp .ge off, 3)) (ht : (pc : Int) + off = (tgt : Int)) (kt : y ≤ x → zW ds l R G X K u tgt lv st) (kf : ¬ y ≤ x → zW ds l R G X K u (pc + 3) lv st) : zW ds l R G X K u pc lv (.int y :: .int x :: st) := fun H locs ls h1 h2 h3 h4 => lv_icmp_ge hC.1 hC.2.1 hd ht (fun q => kt q H locs ls h1 h2 h3 h4) (fun q => kf q H locs ls h1 h2 h3 h4)
theorem r_icmp_gt (hC : zC G X cc nL own ret) {x y : Int32} {off : Int} {tgt : Nat} (hd : decode cc pc = .ok (.if_icmp .gt off, 3)) (ht : (pc : Int) + off = (tgt : Int)) (kt : y < x → zW ds l R G X K u tgt lv st) (kf : ¬ y < x → zW ds l R G X K u (pc + 3) lv st) : zW ds l R G X K u pc lv (.int y :: .int x :: st) := fun H locs ls h1 h2 h3 h4 => lv_icmp_gt hC.1 hC.2.1 hd ht (fun q => kt q H locs ls h1 h2 h3 h4) (fun q => kf q H locs ls h1 h2 h3 h4)
theorem r_icmp_le (hC : zC G X cc nL own ret) {x y : Int32} {off : Int} {tgt : Nat} (hd : decode cc pc = .ok (.if_icmp .le off, 3)) (ht : (pc : Int) + off = (tgt : Int)) (kt : x ≤ y → zW ds l R G X K u tgt lv st) (kf : ¬ x ≤ y → zW ds l R G X K u (pc + 3) lv st) : zW ds l R G X K u pc lv (.int y :: .int x :: st) := fun H locs ls h1 h2 h3 h4 => lv_icmp_le hC.1 hC.2.1 hd ht (fun q => kt q H locs ls h1 h2 h3 h4) (fun q => kf q H locs ls h1 h2 h3 h4)
theorem r_ldc (hC : zC G X cc nL own ret) {idx : Nat} {v : Int32} (hm : Cond.constant own idx v ∈ tblG) (hd : decode cc pc = .ok (.ldc idx, 2)) (k : zW ds l R G X K u (pc + 2) lv (.int v :: st)) : zW ds l R G X K u pc lv st := fun H locs ls h1 h2 h3 h4 => lv_ldc hC.1 hC.2.1 hC.2.2.2.1 (hC.2.2.2.2.1 _ hm) hd (k H locs ls h1 h2 h3 h4)
theorem r_ldcw (hC : zC G X cc nL own ret) {idx : Nat} {v : Int32} (hm : Cond.constant own idx v ∈ tblG) (hd : decode cc pc = .ok (.ldc_w idx, 3)) (k : zW ds l R G X K u (pc + 3) lv (.int v :: st)) : zW ds l R G X K u pc lv st := fun H locs ls h1 h2 h3 h4 => lv_ldcw hC.1 hC.2.1 hC.2.2.2.1 (hC.2.2.2.2.1 _ hm) hd (k H locs ls h1 h2 h3 h4)
theorem r_ldc2 (hC : zC G X cc nL own ret) {idx : Nat} {v : Int64} (hm : Cond.constantLong own idx v ∈ tblG) (hd : decode cc pc = .ok (.ldc2_w idx, 3)) (k : zW ds l R G X K u (pc + 3) lv (.long v :: st)) : zW ds l R G X K u pc lv st := fun H locs ls h1 h2 h3 h4 => lv_ldc2 hC.1 hC.2.1 hC.2.2.2.1 (hC.2.2.2.2.1 _ hm) hd (k H locs ls h1 h2 h3 h4)
theorem r_tsIn (hC : zC G X cc nL own ret) {dflt lo hi : Int} {offs : Array Int} {len : Nat} {x q : Int32} {off : Int} {tgt : Nat} (hd : decode cc pc = .ok (.tableswitch dflt lo hi offs, len)) (hq : x = q) (hh : ¬ q.toInt < lo ∧ ¬ hi < q.toInt ∧ offs[(q.toInt - lo).toNat]? = some off) (ht : (pc : Int) + off = (tgt : Int)) (k : zW ds l R G X K u tgt lv st) : zW ds l R G X K u pc lv (.int x :: st) := by
  subst hq
  exact fun H locs ls h1 h2 h3 h4 => lv_tableIn hC.1 hC.2.1 hd hh.1 hh.2.1 hh.2.2 ht (k H locs ls h1 h2 h3 h4)
theorem r_tsOut (hC : zC G X cc nL own ret) {dflt lo hi : Int} {offs : Array Int} {len : Nat} {x : Int32} {tgt : Nat} (hd : decode cc pc = .ok (.tableswitch dflt lo hi offs, len)) (hh : x.toInt < lo ∨ hi < x.toInt) (ht : (pc : Int) + dflt = (tgt : Int)) (k : zW ds l R G X K u tgt lv st) : zW ds l R G X K u pc lv (.int x :: st) := fun H locs ls h1 h2 h3 h4 => lv_tableOut hC.1 hC.2.1 hd hh ht (k H locs ls h1 h2 h3 h4)
theorem r_lsw (hC : zC G X cc nL own ret) {dflt : Int} {ps : Array (Int × Int)} {len : Nat} {x : Int32} {off : Int} {tgt : Nat} (hd : decode cc pc = .ok (.lookupswitch dflt ps, len)) (hp : (ps.toList.zip (ps.toList.drop 1)).all (fun (a, next) => a.1 < next.1) = true) (ho : Op.lookupswitch.offset ps.toList dflt x.toInt = off) (ht : (pc : Int) + off = (tgt : Int)) (k : zW ds l R G X K u tgt lv st) : zW ds l R G X K u pc lv (.int x :: st) := fun H locs ls h1 h2 h3 h4 => lv_lookup hC.1 hC.2.1 hd hp ho ht (k H locs ls h1 h2 h3 h4)
/-- the locals in another order, or fewer of them -/
theorem r_loc {lv' : List (Nat × Value)} (ks : List Nat) (hl : lv_pick lv ks = lv') (k : zW ds l R G X K u pc lv' st) : zW ds l R G X K u pc lv st := fun H locs ls h1 h2 h3 h4 => k H locs ls h1 h2 h3 (lv_sub h4 ks hl)
theorem r_iret (hC : zC G X cc nL own (some .int)) {v : Int32} (hd : decode cc pc = .ok (.ireturn, 1)) (hk : K (some (.int v)) u) : zW ds l R G X K u pc lv [.int v] := fun H locs ls h1 h2 h3 h4 =>
  W.iret hC.1 hC.2.1 hC.2.2.2.2.2.2.2.1 (fun t ht hW => ⟨⟨_, _, rfl, hk, by rw [ht]; exact h1, va_K.moved hW.alike hC.2.2.2.2.2.1, h2⟩, h3.F ht⟩) h3.2.2 hd hC.2.2.2.2.2.2.2.2.1
theorem r_zret (hC : zC G X cc nL own (some .boolean)) {v : Int32} (hn : narrow .boolean (.int v) = .int v) (hd : decode cc pc = .ok (.ireturn, 1)) (hk : K (some (.int v)) u) : zW ds l R G X K u pc lv [.int v] := fun H locs ls h1 h2 h3 h4 =>
  W.zret hC.1 hC.2.1 hC.2.2.2.2.2.2.2.1 hn (fun t ht hW => ⟨⟨_, _, rfl, hk, by rw [ht]; exact h1, va_K.moved hW.alike hC.2.2.2.2.2.1, h2⟩, h3.F ht⟩) h3.2.2 hd hC.2.2.2.2.2.2.2.2.1
theorem r_lret (hC : zC G X cc nL own (some .long)) {v : Int64} (hd : decode cc pc = .ok (.lreturn, 1)) (hk : K (some (.long v)) u) : zW ds l R G X K u pc lv [.long v] := fun H locs ls h1 h2 h3 h4 =>
  W.lret hC.1 hC.2.1 hC.2.2.2.2.2.2.2.1 (fun t ht hW => ⟨⟨_, _, rfl, hk, by rw [ht]; exact h1, va_K.moved hW.alike hC.2.2.2.2.2.1, h2⟩, h3.F ht⟩) h3.2.2 hd hC.2.2.2.2.2.2.2.2.1
theorem r_vret (hC : zC G X cc nL own none) (hd : decode cc pc = .ok (.return_, 1)) (hk : K none u) : zW ds l R G X K u pc lv [] := fun H locs ls h1 h2 h3 h4 =>
  W.vret hC.1 hC.2.1 hC.2.2.2.2.2.2.2.1 (fun t ht hW => ⟨⟨_, _, rfl, hk, by rw [ht]; exact h1, va_K.moved hW.alike hC.2.2.2.2.2.1, h2⟩, h3.F ht⟩) h3.2.2 hd hC.2.2.2.2.2.2.2.2.1
/-- a field as the tables have it, read -/
def zFd (own : String) (idx ci k : Nat) : Prop := ∃ (C : String) (T : u_T) (N : Nat), vwCl[ci]? = some (C, T, N) ∧ (∀ w ∈ u_ws C T N, w ∈ tblG) ∧ k < N ∧ Cond.fieldLink own idx (T k).1 (T k).2.1 (T k).2.2.1 ∈ tblG
/-- a field as the tables have it, written -/
def zFp (own : String) (idx ci k : Nat) (ty : FieldType) : Prop := ∃ (C : String) (T : u_T) (N : Nat) (ty0 : Nat → FieldType), vwCl[ci]? = some (C, T, N) ∧ (∀ w ∈ u_ws C T N, w ∈ tblG) ∧ k < N ∧ Cond.fieldLink own idx (T k).1 (T k).2.1 (T k).2.2.1 ∈ tblG ∧ (∀ k, k < N → parseFieldDescriptor (T k).2.2.1 = some (ty0 k)) ∧ (∀ a, a < N → ∀ b, b < N → a ≠ b → (T a).2.1 ≠ (T b).2.1) ∧ (T k).2.2.2 = false ∧ parseFieldDescriptor (T k).2.2.1 = some ty
theorem r_geti (hC : zC G X cc nL own ret) {c ci k idx : Nat} {fs : List zF} (hF : zFd own idx ci k) (hr : ds[c]? = some (.inl (ci, fs))) (hf : fs[k]? = some none) (hd : decode cc pc = .ok (.getfield idx, 3)) (kk : zW ds l R G X K u (pc + 3) lv (.int (u.1 c k) :: st)) : zW ds l R G X K u pc lv (.ref (G.1 c) :: st) := by
  obtain ⟨C, T, N, f1, f2, f3, f4⟩ := hF
  intro H locs ls h1 h2 h3 h4
  exact va_get hC.1 hC.2.1 hC.2.2.2.2.1 f2 hC.2.2.2.1 hC.2.2.2.2.2.1 h1 c (zpic_get hr) f1 k f3 (hC.2.2.2.2.1 _ f4) (fun _ h9 => h9) (by have := zfl_int (ad := G.1) (u := u) (c := c) fs 0 k hf; rwa [Nat.zero_add] at this) hd (kk H locs ls h1 h2 h3 h4)
theorem r_getr (hC : zC G X cc nL own ret) {c ci k idx r : Nat} {fs : List zF} (hF : zFd own idx ci k) (hr : ds[c]? = some (.inl (ci, fs))) (hf : fs[k]? = some (some r)) (hd : decode cc pc = .ok (.getfield idx, 3)) (kk : zW ds l R G X K u (pc + 3) lv (.ref (G.1 r) :: st)) : zW ds l R G X K u pc lv (.ref (G.1 c) :: st) := by
  obtain ⟨C, T, N, f1, f2, f3, f4⟩ := hF
  intro H locs ls h1 h2 h3 h4
  exact va_get hC.1 hC.2.1 hC.2.2.2.2.1 f2 hC.2.2.2.1 hC.2.2.2.2.2.1 h1 c (zpic_get hr) f1 k f3 (hC.2.2.2.2.1 _ f4) (fun _ h9 => h9) (zfl_ref (ad := G.1) (u := u) (c := c) fs 0 k hf) hd (kk H locs ls h1 h2 h3 h4)
theorem r_putz (hC : zC G X cc nL own ret) {c ci k idx : Nat} {fs : List zF} {v : Int32} {ty : FieldType} (hF : zFp own idx ci k ty) (hn : narrow ty (.int v) = .int v) (hfit : fits ty (.int v) = true) (hr : ds[c]? = some (.inl (ci, fs))) (hf : fs[k]? = some none) (hd : decode cc pc = .ok (.putfield idx, 3)) (kk : zW ds l R G X K (wI u c k v) (pc + 3) lv st) : zW ds l R G X K u pc lv (.int v :: .ref (G.1 c) :: st) := by
  obtain ⟨C, T, N, ty0, f1, f2, f3, f4, f5, f6, f7, f8⟩ := hF
  intro H locs ls h1 h2 h3 h4
  refine va_put hC.1 hC.2.1 hC.2.2.2.2.1 f2 ty0 f5 f6 hC.2.2.2.1 hC.2.2.2.2.2.1 h1 h2 h3 c (zpic_get hr) f1 k f3 (hC.2.2.2.2.1 _ f4) (fun _ h9 => h9) f7 f8 hn hfit (by rw [zfl_len]; exact (List.getElem?_eq_some_iff.mp hf).1) hd (fun H1 locs1 g1 g2 g3 => ?_)
  have hs := zfl_set (ad := G.1) (u := u) (c := c) (v := v) fs 0 k hf
  rw [Nat.zero_add] at hs
  have e : (zpic ds G u).set c (G.1 c, .inr (ci, (zfl G.1 u c fs 0).set k (.int v))) = zpic ds G (wI u c k v) := zpic_set hr (fun a ha => ⟨wI_ne ha, rfl⟩) (by simp only [zce]; rw [hs])
  rw [e] at g1 g2
  exact kk H1 locs1 ls g1 g2 g3 h4
theorem r_puti (hC : zC G X cc nL own ret) {c ci k idx : Nat} {fs : List zF} {v : Int32} (hF : zFp own idx ci k .int) (hr : ds[c]? = some (.inl (ci, fs))) (hf : fs[k]? = some none) (hd : decode cc pc = .ok (.putfield idx, 3)) (kk : zW ds l R G X K (wI u c k v) (pc + 3) lv st) : zW ds l R G X K u pc lv (.int v :: .ref (G.1 c) :: st) := r_putz hC hF rfl rfl hr hf hd kk
theorem r_iald (hC : zC G X cc nL own ret) {c n : Nat} {i : Int32} (hr : ds[c]? = some (.inr (false, n))) (hin : vp_in i n) (hd : decode cc pc = .ok (.iaload, 1)) (kk : zW ds l R G X K u (pc + 1) lv (.int (u.1 c i.toNatClampNeg) :: st)) : zW ds l R G X K u pc lv (.int i :: .ref (G.1 c) :: st) := fun H locs ls h1 h2 h3 h4 =>
  va_iald hC.1 hC.2.1 hC.2.2.2.2.2.1 h1 c 0 (zpic_get hr) rfl hin hd (kk H locs ls h1 h2 h3 h4)
theorem r_lald (hC : zC G X cc nL own ret) {c n : Nat} {i : Int32} (hr : ds[c]? = some (.inr (true, n))) (hin : vp_in i n) (hd : decode cc pc = .ok (.laload, 1)) (kk : zW ds l R G X K u (pc + 1) lv (.long (u.2 c i.toNatClampNeg) :: st)) : zW ds l R G X K u pc lv (.int i :: .ref (G.1 c) :: st) := fun H locs ls h1 h2 h3 h4 =>
  va_lald hC.1 hC.2.1 hC.2.2.2.2.2.1 h1 c 1 (zpic_get hr) rfl hin hd (kk H locs ls h1 h2 h3 h4)
theorem r_iast (hC : zC G X cc nL own ret) {c n : Nat} {i v : Int32} (hr : ds[c]? = some (.inr (false, n))) (hin : vp_in i n) (hd : decode cc pc = .ok (.iastore, 1)) (kk : zW ds l R G X K (wI u c i.toNatClampNeg v) (pc + 1) lv st) : zW ds l R G X K u pc lv (.int v :: .int i :: .ref (G.1 c) :: st) := by
  intro H locs ls h1 h2 h3 h4
  refine va_iast hC.1 hC.2.1 hC.2.2.2.2.2.1 h1 h2 h3 c 0 (zpic_get hr) rfl hin hd (fun H1 locs1 g1 g2 g3 => ?_)
  have e : (zpic ds G u).set c (G.1 c, .inl (G.2.1, n, .inl (upd (u.1 c) i.toNatClampNeg v))) = zpic ds G (wI u c i.toNatClampNeg v) := zpic_set hr (fun a ha => ⟨wI_ne ha, rfl⟩) (by simp only [zce]; rw [wI_at])
  rw [e] at g1 g2
  exact kk H1 locs1 ls g1 g2 g3 h4
theorem r_last (hC : zC G X cc nL own ret) {c n : Nat} {i : Int32} {v : Int64} (hr : ds[c]? = some (.inr (true, n))) (hin : vp_in i n) (hd : decode cc pc = .ok (.lastore, 1)) (kk : zW ds l R G X K (wL u c i.toNatClampNeg v) (pc + 1) lv st) : zW ds l R G X K u pc lv (.long v :: .int i :: .ref (G.1 c) :: st) := by
  intro H locs ls h1 h2 h3 h4
  refine va_last hC.1 hC.2.1 hC.2.2.2.2.2.1 h1 h2 h3 c 1 (zpic_get hr) rfl hin hd (fun H1 locs1 g1 g2 g3 => ?_)
  have e : (zpic ds G u).set c (G.1 c, .inl (G.2.2.1, n, .inr (.inl (vp_updL (u.2 c) i.toNatClampNeg v)))) = zpic ds G (wL u c i.toNatClampNeg v) := zpic_set hr (fun a ha => ⟨rfl, wL_ne ha⟩) (by simp only [zce]; rw [wL_at])
  first | rw [e] at g1 g2 | (rw [show ∀ f : Nat → Int64, (fun j => if j = i.toNatClampNeg then v else f j) = vp_updL f i.toNatClampNeg v from fun _ => rfl, e] at g1 g2)
  exact kk H1 locs1 ls g1 g2 g3 h4
def cpOk (sp dp n : Int32) (n0 n1 : Nat) : Prop := ¬ sp < 0 ∧ ¬ dp < 0 ∧ ¬ n < 0 ∧ sp.toNatClampNeg + n.toNatClampNeg ≤ n0 ∧ dp.toNatClampNeg + n.toNatClampNeg ≤ n1
def zAc (own : String) (idx : Nat) : Prop := Cond.methodLink own idx arraycopyName ∈ tblG ∧ Cond.native arraycopyName ∈ tblG ∧ Cond.static arraycopyName ∈ tblG ∧ Cond.initialized "java/lang/System" ∈ tblG
theorem r_cpi (hC : zC G X cc nL own ret) {a b n0 n1 idx : Nat} {sp dp n : Int32} (hL : zAc own idx) (hr0 : ds[a]? = some (.inr (false, n0))) (hr1 : ds[b]? = some (.inr (false, n1))) (ho : cpOk sp dp n n0 n1) (hR : 1 ≤ R.frames ∧ (st.map fun v => v.category).sum + 18 ≤ R.locals) (hd : decode cc pc = .ok (.invokestatic idx, 3)) (kk : zW ds l R G X K (cpI u a sp.toNatClampNeg b dp.toNatClampNeg n.toNatClampNeg) (pc + 3) lv st) : zW ds l R G X K u pc lv (.int n :: .int dp :: .ref (G.1 b) :: .int sp :: .ref (G.1 a) :: st) := by
  obtain ⟨k1, k2, k3, k4⟩ := hL
  obtain ⟨o1, o2, o3, o4, o5⟩ := ho
  intro H locs ls h1 h2 h3 h4
  refine va_copyi hC.1 hC.2.1 h4.1.symm hC.2.2.2.1 (hC.2.2.2.2.1 _ k1) (hC.2.2.2.2.1 _ k2) (hC.2.2.2.2.1 _ k3) (hC.2.2.2.2.1 _ k4) hC.2.2.2.2.2.1 h1 h2 h3 a b 0 0 (zpic_get hr0) (zpic_get hr1) rfl rfl rfl o1 o2 o3 o4 o5 (fun _ _ => rfl) hR.1 hR.2 hd (fun H1 locs1 g1 g2 g3 => ?_)
  have e : (zpic ds G u).set b (G.1 b, .inl (G.2.1, n1, .inl (va_cpy (u.1 a) (u.1 b) sp.toNatClampNeg dp.toNatClampNeg n.toNatClampNeg))) = zpic ds G (cpI u a sp.toNatClampNeg b dp.toNatClampNeg n.toNatClampNeg) := zpic_set hr1 (fun q hq => ⟨by funext j; simp [cpI, hq], rfl⟩) (by simp only [zce]; congr 4; funext j; simp [cpI])
  rw [e] at g1 g2
  exact kk H1 locs1 ls g1 g2 g3 h4
theorem r_cpl (hC : zC G X cc nL own ret) {a b n0 n1 idx : Nat} {sp dp n : Int32} (hL : zAc own idx) (hr0 : ds[a]? = some (.inr (true, n0))) (hr1 : ds[b]? = some (.inr (true, n1))) (ho : cpOk sp dp n n0 n1) (hR : 1 ≤ R.frames ∧ (st.map fun v => v.category).sum + 18 ≤ R.locals) (hd : decode cc pc = .ok (.invokestatic idx, 3)) (kk : zW ds l R G X K (cpL u a sp.toNatClampNeg b dp.toNatClampNeg n.toNatClampNeg) (pc + 3) lv st) : zW ds l R G X K u pc lv (.int n :: .int dp :: .ref (G.1 b) :: .int sp :: .ref (G.1 a) :: st) := by
  obtain ⟨k1, k2, k3, k4⟩ := hL
  obtain ⟨o1, o2, o3, o4, o5⟩ := ho
  intro H locs ls h1 h2 h3 h4
  refine va_copyl hC.1 hC.2.1 h4.1.symm hC.2.2.2.1 (hC.2.2.2.2.1 _ k1) (hC.2.2.2.2.1 _ k2) (hC.2.2.2.2.1 _ k3) (hC.2.2.2.2.1 _ k4) hC.2.2.2.2.2.1 h1 h2 h3 a b 1 1 (zpic_get hr0) (zpic_get hr1) rfl rfl rfl o1 o2 o3 o4 o5 (fun _ _ => rfl) hR.1 hR.2 hd (fun H1 locs1 g1 g2 g3 => ?_)
  have e : (zpic ds G u).set b (G.1 b, .inl (G.2.2.1, n1, .inr (.inl (va_cpy (u.2 a) (u.2 b) sp.toNatClampNeg dp.toNatClampNeg n.toNatClampNeg)))) = zpic ds G (cpL u a sp.toNatClampNeg b dp.toNatClampNeg n.toNatClampNeg) := zpic_set hr1 (fun q hq => ⟨rfl, by funext j; simp [cpL, hq]⟩) (by simp only [zce]; congr 5; funext j; simp [cpL])
  rw [e] at g1 g2
  exact kk H1 locs1 ls g1 g2 g3 h4
/-- a method as the tables have it -/
def zNm (y : MethodName) (n : Nat) : Prop := y.cls ≠ "java/lang/invoke/MethodHandle" ∧ y.cls ≠ "java/lang/invoke/VarHandle" ∧ (parseMethodDescriptor y.desc).map (fun d => d.parameters.length) = some n
def zYv (y : MethodName) (bytes : ByteArray) (maxL : Nat) (yr : Option FieldType) (n ci : Nat) : Prop := Cond.code y bytes maxL yr ∈ tblG ∧ Cond.instanceMethod y ∈ tblG ∧ Cond.selects y.cls y y ∈ tblG ∧ Cond.initialized y.cls ∈ tblG ∧ zNm y n ∧ (vwCl[ci]?).map (fun q => q.1) = some y.cls
def zYs (y : MethodName) (bytes : ByteArray) (maxL : Nat) (yr : Option FieldType) (n : Nat) : Prop := Cond.code y bytes maxL yr ∈ tblG ∧ Cond.static y ∈ tblG ∧ Cond.initialized y.cls ∈ tblG ∧ zNm y n
def zRm (rm R : Room) (maxL : Nat) : Prop := rm.frames + 1 ≤ R.frames ∧ 8 + (maxL + 11) + rm.locals ≤ R.locals ∧ rm.cells = 0 ∧ rm.slots = 0
theorem zPre_blind {av : List Value} {sz : Nat} {w : zS} : FrameBlind (va_Pc av (zPre ds G w sz)) := fun a U g mk q => by
  obtain ⟨q0, q1, qP, qK, qD, qN⟩ := q
  exact ⟨q0, q1, qP, va_K.moved (u := U) (U := U.calling g mk a) (Vm.Alike.refl U.vm) qK, qD, zNst_same (s := U) (U := U.calling g mk a) rfl qN⟩
theorem zPre_at (hC : zC G X cc nL own ret) {av : List Value} {H : Heap} (h1 : va_P G.2.2.2 vwCl (zpic ds G u) H) (h2 : va_D X.2.2 (zpic ds G u)) (U : State) (hU : U.heap = H) (hW : X.1.2.2.WarmedH U.vm) : va_Pc av (zPre ds G u H.size) av.toArray U := ⟨rfl, by rw [hU], by rw [hU]; exact h1, va_K.moved hW.alike hC.2.2.2.2.2.1, h2.weaken (fun _ _ _ _ => trivial), zNst_warm hW hC.2.2.2.2.2.2.2.2.2⟩
theorem z_after (hC : zC G X cc nL own ret) {H : Heap} {locs : List Loc} {ls : Array Slot} {w : zS} {v : Option Value} {rest st0 : List Value} {a : Array Value} (h2 : va_D X.2.2 (zpic ds G u)) (h3 : va_S X.2.2 X.1.2.2.heap H locs) (h4 : lv_has ls X.2.1.2.2.2.2.maxLocals lv)
    (run : va_Run X.1.1 l X.1.2.1 R X.1.2.2 X.2.1.1 X.2.1.2.1 X.2.1.2.2.1 X.2.1.2.2.2.1 X.2.1.2.2.2.2 H locs 0 0 0 0 (F0 X.2.1.1 pc ls st0) rest (zQc ds G (va_A (zpic ds G u) H.size) (fun v2 w2 => v2 = v ∧ w2 = w) a) (va_A (zpic ds G u) H.size))
    (kk : zW ds l R G X K w (pc + 3) lv (v.toList ++ rest)) :
    W X.1.1 l X.1.2.1 R X.1.2.2 X.2.1.1 X.2.1.2.1 X.2.1.2.2.1 X.2.1.2.2.2.1 X.2.1.2.2.2.2 H locs 0 0 (MQ X.2.1.2.2.1 (zQc ds G X.2.2 K) X.2.1.2.1 X.1.2.2 0 0 X.2.2) (F0 X.2.1.1 pc ls st0) := by
  have hF : ∀ q, va_A (zpic ds G u) H.size q → X.2.2 q := by
    intro q hq
    rcases hq with ⟨k, e, hk⟩ | hq
    · exact h2.2 k _ hk
    · exact hC.2.2.2.2.2.2.1 q (Nat.le_trans h3.1 hq)
  intro T hT XX
  obtain ⟨v', st₀, t, T', L, h0, X', hL, e1, e2, ⟨⟨v2, u2, hv, ⟨q1, q2⟩, hP', hK', hD'⟩, hz, hk⟩, stp⟩ := run T hT XX
  have hv' : v' = v := by
    have := Outcome.returned.inj hv
    rw [this, q1]
  subst hv'
  subst q2
  rw [h0] at hz hk
  have hS : va_S X.2.2 X.1.2.2.heap T'.heap (locs ++ L) := ⟨Nat.le_trans h3.1 (by rw [e1]; exact hz), fun q g1 g2 => by rw [e1, hk q (Nat.lt_of_lt_of_le g1 h3.1) (fun z => g2 (hF q z))]; exact h3.2.1 q g1 g2, fun q hq => by
      rcases List.mem_append.mp hq with h | h
      · exact h3.2.2 q h
      · exact hF _ (hL q h)⟩
  obtain ⟨t2, a1, b1⟩ := kk T'.heap (locs ++ L) ls (by rw [e1]; exact hP') (hD'.weaken (fun _ q _ h => hF q.1 h)) hS h4 T' rfl X'
  exact ⟨t2, stp t2 a1, b1⟩
theorem r_cv (hC : zC G X cc nL own ret) {y : MethodName} {bytes : ByteArray} {maxL n idx c ci : Nat} {yr : Option FieldType} {rm : Room} {As rest : List Value} {v : Option Value} {w : zS} {fs : List zF}
    (hM : zM l ds y bytes maxL yr rm G (.ref (G.1 c) :: As) u v w) (hY : zYv y bytes maxL yr n ci) (hL : Cond.methodLink own idx y ∈ tblG) (hr : ds[c]? = some (.inl (ci, fs))) (hR : zRm rm R maxL) (hn : As.length = n) (hst : st = As.reverse ++ .ref (G.1 c) :: rest) (hw : (rest.map fun v => v.category).sum ≤ 8) (hd : decode cc pc = .ok (.invokevirtual idx, 3)) (kk : zW ds l R G X K w (pc + 3) lv (v.toList ++ rest)) : zW ds l R G X K u pc lv st := by
  obtain ⟨y1, y2, y3, y4, y5, y6⟩ := hY
  obtain ⟨r1, r2, r3, r4⟩ := hR
  intro H locs ls h1 h2 h3 h4
  obtain ⟨q, hq1, hq2⟩ : ∃ q, vwCl[ci]? = some q ∧ q.1 = y.cls := by
    cases hq : vwCl[ci]? with
    | none => rw [hq] at y6; cases y6
    | some q => rw [hq] at y6; exact ⟨q, rfl, Option.some.inj y6⟩
  have hrecv := va_recv hC.2.2.2.2.2.1 h1 hq1 (zpic_get (G := G) (u := u) hr)
  rw [hq2] at hrecv
  refine z_after hC h2 h3 h4 (va_runV (C := y.cls) (As := As) (rest := rest) (cc := cc) (nL := nL) (own := own) (Ts := tblG) (bytes := bytes) (maxL := maxL) (ret := yr) (n := n) (index := idx) (b := G.1 c) ⟨hC.1, hC.2.1, hC.2.2.1, hC.2.2.2.1, hC.2.2.2.2.1⟩ (hM H.size) ⟨callB_of (ws' := tblG) n hC.2.2.2.2.1 (tblG_in y1) rfl r3 r4 (hC.2.2.2.2.1 _ y4) (hC.2.2.2.2.1 _ hL) y5 ⟨r1, r2⟩, hC.2.2.2.2.1 _ y2, hC.2.2.2.2.1 _ y3⟩ ⟨zPre_blind, hrecv, fun U hU hW => zPre_at hC h1 h2 U hU hW⟩ rfl hn (h4.1.trans hC.2.2.1) hst (lv_room hw) hd ⟨Nat.zero_le _, Nat.zero_le _⟩) kk
theorem r_cs (hC : zC G X cc nL own ret) {y : MethodName} {bytes : ByteArray} {maxL n idx : Nat} {yr : Option FieldType} {rm : Room} {As rest : List Value} {v : Option Value} {w : zS}
    (hM : zM l ds y bytes maxL yr rm G As u v w) (hY : zYs y bytes maxL yr n) (hL : Cond.methodLink own idx y ∈ tblG) (hR : zRm rm R maxL) (hn : As.length = n) (hst : st = As.reverse ++ rest) (hw : (rest.map fun v => v.category).sum ≤ 8) (hd : decode cc pc = .ok (.invokestatic idx, 3)) (kk : zW ds l R G X K w (pc + 3) lv (v.toList ++ rest)) : zW ds l R G X K u pc lv st := by
  obtain ⟨y1, y2, y3, y5⟩ := hY
  obtain ⟨r1, r2, r3, r4⟩ := hR
  intro H locs ls h1 h2 h3 h4
  refine z_after hC h2 h3 h4 (va_runS (As := As) (rest := rest) (cc := cc) (nL := nL) (own := own) (Ts := tblG) (bytes := bytes) (maxL := maxL) (ret := yr) (n := n) (index := idx) ⟨hC.1, hC.2.1, hC.2.2.1, hC.2.2.2.1, hC.2.2.2.2.1⟩ (hM H.size) ⟨callB_of (ws' := tblG) n hC.2.2.2.2.1 (tblG_in y1) rfl r3 r4 (hC.2.2.2.2.1 _ y3) (hC.2.2.2.2.1 _ hL) y5 ⟨r1, r2⟩, hC.2.2.2.2.1 _ y2⟩ ⟨zPre_blind, fun U hU hW => zPre_at hC h1 h2 U hU hW⟩ rfl hn (h4.1.trans hC.2.2.1) hst (lv_room hw) hd ⟨Nat.zero_le _, Nat.zero_le _⟩) kk
theorem r_csn (hC : zC G X cc nL own ret) {y : MethodName} {bytes : ByteArray} {maxL n idx : Nat} {yr : Option FieldType} {rm : Room} {As rest : List Value} {v : Option Value} {w : zS} {host : String}
    (hM : zM l ds y bytes maxL yr rm G As u v w) (hY : zYs y bytes maxL yr n) (hL : Cond.methodLinkNest own idx y host ∈ zNst) (hR : zRm rm R maxL) (hn : As.length = n) (hst : st = As.reverse ++ rest) (hw : (rest.map fun v => v.category).sum ≤ 8) (hd : decode cc pc = .ok (.invokestatic idx, 3)) (kk : zW ds l R G X K w (pc + 3) lv (v.toList ++ rest)) : zW ds l R G X K u pc lv st := by
  obtain ⟨y1, y2, y3, y5⟩ := hY
  obtain ⟨r1, r2, r3, r4⟩ := hR
  intro H locs ls h1 h2 h3 h4
  refine z_after hC h2 h3 h4 (va_runSN (As := As) (rest := rest) (cc := cc) (nL := nL) (own := own) (Ts := tblG) (bytes := bytes) (maxL := maxL) (ret := yr) (n := n) (index := idx) (host := host) ⟨hC.1, hC.2.1, hC.2.2.1, hC.2.2.2.1, hC.2.2.2.2.1⟩ (hM H.size) ⟨va_cnB (ws' := tblG) n hC.2.2.2.2.1 (tblG_in y1) rfl r3 r4 (hC.2.2.2.2.2.2.2.2.2 _ hL) (hC.2.2.2.2.1 _ y3) y5 ⟨r1, r2⟩, hC.2.2.2.2.1 _ y2, trivial⟩ ⟨zPre_blind, fun U hU hW => zPre_at hC h1 h2 U hU hW⟩ rfl hn (h4.1.trans hC.2.2.1) hst (lv_room hw) hd ⟨Nat.zero_le _, Nat.zero_le _⟩) kk
end
/-! Option: a guard, a bind -/
def og {α : Type} (c : Bool) (x : Option α) : Option α := if c = true then x else none
def ob {α β : Type} (x : Option α) (f : α → Option β) : Option β := match x with
  | none => none
  | some a => f a
def inB (i : Int32) (n : Nat) : Bool := !(decide (i < 0)) && decide (i.toNatClampNeg < n)
def neB (y : Int32) : Bool := !(decide (y = 0))
def neL (y : Int64) : Bool := !(decide (y = 0))
def zzB (v : Int32) : Bool := decide (v = 0) || decide (v = 1)
def cpB (sp dp n : Int32) (n0 n1 : Nat) : Bool := !(decide (sp < 0)) && !(decide (dp < 0)) && !(decide (n < 0)) && decide (sp.toNatClampNeg + n.toNatClampNeg ≤ n0) && decide (dp.toNatClampNeg + n.toNatClampNeg ≤ n1)
theorem og_some {α : Type} {c : Bool} {x : Option α} {y : α} (h : og c x = some y) : c = true ∧ x = some y := by
  unfold og at h
  split at h
  · exact ⟨‹_›, h⟩
  · cases h
theorem ob_some {α β : Type} {x : Option α} {f : α → Option β} {y : β} (h : ob x f = some y) : ∃ a, x = some a ∧ f a = some y := by
  cases x with
  | none => cases h
  | some a => exact ⟨a, rfl, h⟩
theorem inB_in {i : Int32} {n : Nat} (h : inB i n = true) : vp_in i n := by
  simp only [inB, Bool.and_eq_true, Bool.not_eq_true', decide_eq_false_iff_not, decide_eq_true_eq] at h
  intro q
  rcases q with q | q
  · exact h.1 q
  · exact absurd h.2 (Nat.not_lt.mpr q)
theorem og_in {α : Type} {i : Int32} {n : Nat} {x : Option α} {y : α} (h : og (inB i n) x = some y) : vp_in i n ∧ x = some y := ⟨inB_in (og_some h).1, (og_some h).2⟩
theorem og_ne {α : Type} {i : Int32} {x : Option α} {y : α} (h : og (neB i) x = some y) : ¬ i = 0 ∧ x = some y := ⟨by simpa [neB] using (og_some h).1, (og_some h).2⟩
theorem og_nl {α : Type} {i : Int64} {x : Option α} {y : α} (h : og (neL i) x = some y) : ¬ i = 0 ∧ x = some y := ⟨by simpa [neL] using (og_some h).1, (og_some h).2⟩
theorem zz_nar {v : Int32} (h : v = 0 ∨ v = 1) : narrow .boolean (.int v) = .int v := by rcases h with rfl | rfl <;> rfl
theorem og_zz {α : Type} {v : Int32} {x : Option α} {y : α} (h : og (zzB v) x = some y) : narrow .boolean (.int v) = .int v ∧ x = some y := ⟨zz_nar (by simpa [zzB] using (og_some h).1), (og_some h).2⟩
theorem og_cp {α : Type} {sp dp n : Int32} {n0 n1 : Nat} {x : Option α} {y : α} (h : og (cpB sp dp n n0 n1) x = some y) : cpOk sp dp n n0 n1 ∧ x = some y := ⟨by
  have := (og_some h).1
  simp only [cpB, Bool.and_eq_true, Bool.not_eq_true', decide_eq_false_iff_not, decide_eq_true_eq] at this
  exact ⟨this.1.1.1.1, this.1.1.1.2, this.1.1.2, this.1.2, this.2⟩, (og_some h).2⟩
theorem tbl1 {w : Cond} (i : Nat) (h : tables_1[i]? = some w) (g : goodWord w = true) : w ∈ tblG := tbl_mem (List.mem_append_right _ (List.mem_of_getElem? h)) g
end
section
theorem iX0 : ∀ w ∈ wsX00, w ∈ tblG := fun w hw => tbl_mem ((by decide +kernel : ∀ w ∈ wsX00, w ∈ lw_tbl) w hw) ((by decide +kernel : ∀ w ∈ wsX00, goodWord w = true) w hw)
theorem iX1 : ∀ w ∈ wsX10, w ∈ tblG := fun w hw => tbl_mem ((by decide +kernel : ∀ w ∈ wsX10, w ∈ lw_tbl) w hw) ((by decide +kernel : ∀ w ∈ wsX10, goodWord w = true) w hw)
theorem iX2 : ∀ w ∈ wsX20, w ∈ tblG := fun w hw => tbl_mem ((by decide +kernel : ∀ w ∈ wsX20, w ∈ lw_tbl) w hw) ((by decide +kernel : ∀ w ∈ wsX20, goodWord w = true) w hw)
theorem iX3 : ∀ w ∈ wsX30, w ∈ tblG := fun w hw => tbl_mem ((by decide +kernel : ∀ w ∈ wsX30, w ∈ lw_tbl) w hw) ((by decide +kernel : ∀ w ∈ wsX30, goodWord w = true) w hw)
theorem iX4 : ∀ w ∈ wsX40, w ∈ tblG := fun w hw => tbl_mem ((by decide +kernel : ∀ w ∈ wsX40, w ∈ lw_tbl) w hw) ((by decide +kernel : ∀ w ∈ wsX40, goodWord w = true) w hw)
theorem iX5 : ∀ w ∈ wsX50, w ∈ tblG := fun w hw => tbl_mem ((by decide +kernel : ∀ w ∈ wsX50, w ∈ lw_tbl) w hw) ((by decide +kernel : ∀ w ∈ wsX50, goodWord w = true) w hw)
theorem iX6 : ∀ w ∈ wsX60, w ∈ tblG := fun w hw => tbl_mem ((by decide +kernel : ∀ w ∈ wsX60, w ∈ lw_tbl) w hw) ((by decide +kernel : ∀ w ∈ wsX60, goodWord w = true) w hw)
theorem fl_RX0_9 : Cond.fieldLink RX0 9 (TX0 0).1 (TX0 0).2.1 (TX0 0).2.2.1 ∈ tblG := tbl1 31 (by decide +kernel) rfl
theorem fd_RX0_9 : zFd RX0 9 0 0 := ⟨RX0, TX0, 5, rfl, iX0, by decide, fl_RX0_9⟩
theorem fl_RX0_15 : Cond.fieldLink RX0 15 (TX0 1).1 (TX0 1).2.1 (TX0 1).2.2.1 ∈ tblG := tbl1 32 (by decide +kernel) rfl
theorem fd_RX0_15 : zFd RX0 15 0 1 := ⟨RX0, TX0, 5, rfl, iX0, by decide, fl_RX0_15⟩
theorem fl_RX0_18 : Cond.fieldLink RX0 18 (TX0 2).1 (TX0 2).2.1 (TX0 2).2.2.1 ∈ tblG := tbl1 33 (by decide +kernel) rfl
theorem fd_RX0_18 : zFd RX0 18 0 2 := ⟨RX0, TX0, 5, rfl, iX0, by decide, fl_RX0_18⟩
theorem fl_RX0_31 : Cond.fieldLink RX0 31 (TX0 3).1 (TX0 3).2.1 (TX0 3).2.2.1 ∈ tblG := tbl1 34 (by decide +kernel) rfl
theorem fd_RX0_31 : zFd RX0 31 0 3 := ⟨RX0, TX0, 5, rfl, iX0, by decide, fl_RX0_31⟩
theorem fp_RX0_31 : zFp RX0 31 0 3 .int := ⟨RX0, TX0, 5, tyX0, rfl, iX0, by decide, fl_RX0_31, tyX0_ok, nmX0, rfl, by decide +kernel⟩
theorem fl_RX0_21 : Cond.fieldLink RX0 21 (TX0 4).1 (TX0 4).2.1 (TX0 4).2.2.1 ∈ tblG := tbl1 35 (by decide +kernel) rfl
theorem fd_RX0_21 : zFd RX0 21 0 4 := ⟨RX0, TX0, 5, rfl, iX0, by decide, fl_RX0_21⟩
theorem fp_RX0_21 : zFp RX0 21 0 4 .int := ⟨RX0, TX0, 5, tyX0, rfl, iX0, by decide, fl_RX0_21, tyX0_ok, nmX0, rfl, by decide +kernel⟩
theorem fl_RX5_163 : Cond.fieldLink RX5 163 (TX0 4).1 (TX0 4).2.1 (TX0 4).2.2.1 ∈ tblG := tbl1 36 (by decide +kernel) rfl
theorem fd_RX5_163 : zFd RX5 163 0 4 := ⟨RX0, TX0, 5, rfl, iX0, by decide, fl_RX5_163⟩
theorem fp_RX5_163 : zFp RX5 163 0 4 .int := ⟨RX0, TX0, 5, tyX0, rfl, iX0, by decide, fl_RX5_163, tyX0_ok, nmX0, rfl, by decide +kernel⟩
theorem fl_RX1_9 : Cond.fieldLink RX1 9 (TX1 0).1 (TX1 0).2.1 (TX1 0).2.2.1 ∈ tblG := tbl1 49 (by decide +kernel) rfl
theorem fd_RX1_9 : zFd RX1 9 1 0 := ⟨RX1, TX1, 11, rfl, iX1, by decide, fl_RX1_9⟩
theorem fl_RX0_34 : Cond.fieldLink RX0 34 (TX1 0).1 (TX1 0).2.1 (TX1 0).2.2.1 ∈ tblG := tbl1 50 (by decide +kernel) rfl
theorem fd_RX0_34 : zFd RX0 34 1 0 := ⟨RX1, TX1, 11, rfl, iX1, by decide, fl_RX0_34⟩
theorem fl_RX5_124 : Cond.fieldLink RX5 124 (TX1 0).1 (TX1 0).2.1 (TX1 0).2.2.1 ∈ tblG := tbl1 51 (by decide +kernel) rfl
theorem fd_RX5_124 : zFd RX5 124 1 0 := ⟨RX1, TX1, 11, rfl, iX1, by decide, fl_RX5_124⟩
theorem fl_RX1_15 : Cond.fieldLink RX1 15 (TX1 1).1 (TX1 1).2.1 (TX1 1).2.2.1 ∈ tblG := tbl1 52 (by decide +kernel) rfl
theorem fd_RX1_15 : zFd RX1 15 1 1 := ⟨RX1, TX1, 11, rfl, iX1, by decide, fl_RX1_15⟩
theorem fl_RX5_103 : Cond.fieldLink RX5 103 (TX1 1).1 (TX1 1).2.1 (TX1 1).2.2.1 ∈ tblG := tbl1 53 (by decide +kernel) rfl
theorem fd_RX5_103 : zFd RX5 103 1 1 := ⟨RX1, TX1, 11, rfl, iX1, by decide, fl_RX5_103⟩
theorem fl_RX1_18 : Cond.fieldLink RX1 18 (TX1 2).1 (TX1 2).2.1 (TX1 2).2.2.1 ∈ tblG := tbl1 54 (by decide +kernel) rfl
theorem fd_RX1_18 : zFd RX1 18 1 2 := ⟨RX1, TX1, 11, rfl, iX1, by decide, fl_RX1_18⟩
theorem fl_RX5_106 : Cond.fieldLink RX5 106 (TX1 2).1 (TX1 2).2.1 (TX1 2).2.2.1 ∈ tblG := tbl1 55 (by decide +kernel) rfl
theorem fd_RX5_106 : zFd RX5 106 1 2 := ⟨RX1, TX1, 11, rfl, iX1, by decide, fl_RX5_106⟩
theorem fl_RX1_21 : Cond.fieldLink RX1 21 (TX1 3).1 (TX1 3).2.1 (TX1 3).2.2.1 ∈ tblG := tbl1 56 (by decide +kernel) rfl
theorem fd_RX1_21 : zFd RX1 21 1 3 := ⟨RX1, TX1, 11, rfl, iX1, by decide, fl_RX1_21⟩
theorem fl_RX1_24 : Cond.fieldLink RX1 24 (TX1 4).1 (TX1 4).2.1 (TX1 4).2.2.1 ∈ tblG := tbl1 57 (by decide +kernel) rfl
theorem fd_RX1_24 : zFd RX1 24 1 4 := ⟨RX1, TX1, 11, rfl, iX1, by decide, fl_RX1_24⟩
theorem fl_RX1_30 : Cond.fieldLink RX1 30 (TX1 5).1 (TX1 5).2.1 (TX1 5).2.2.1 ∈ tblG := tbl1 58 (by decide +kernel) rfl
theorem fd_RX1_30 : zFd RX1 30 1 5 := ⟨RX1, TX1, 11, rfl, iX1, by decide, fl_RX1_30⟩
theorem fl_RX5_70 : Cond.fieldLink RX5 70 (TX1 5).1 (TX1 5).2.1 (TX1 5).2.2.1 ∈ tblG := tbl1 59 (by decide +kernel) rfl
theorem fd_RX5_70 : zFd RX5 70 1 5 := ⟨RX1, TX1, 11, rfl, iX1, by decide, fl_RX5_70⟩
theorem fl_RX1_38 : Cond.fieldLink RX1 38 (TX1 6).1 (TX1 6).2.1 (TX1 6).2.2.1 ∈ tblG := tbl1 60 (by decide +kernel) rfl
theorem fd_RX1_38 : zFd RX1 38 1 6 := ⟨RX1, TX1, 11, rfl, iX1, by decide, fl_RX1_38⟩
theorem fp_RX1_38 : zFp RX1 38 1 6 .int := ⟨RX1, TX1, 11, tyX1, rfl, iX1, by decide, fl_RX1_38, tyX1_ok, nmX1, rfl, by decide +kernel⟩
theorem fl_RX5_58 : Cond.fieldLink RX5 58 (TX1 6).1 (TX1 6).2.1 (TX1 6).2.2.1 ∈ tblG := tbl1 61 (by decide +kernel) rfl
theorem fd_RX5_58 : zFd RX5 58 1 6 := ⟨RX1, TX1, 11, rfl, iX1, by decide, fl_RX5_58⟩
theorem fp_RX5_58 : zFp RX5 58 1 6 .int := ⟨RX1, TX1, 11, tyX1, rfl, iX1, by decide, fl_RX5_58, tyX1_ok, nmX1, rfl, by decide +kernel⟩
theorem fl_RX1_41 : Cond.fieldLink RX1 41 (TX1 7).1 (TX1 7).2.1 (TX1 7).2.2.1 ∈ tblG := tbl1 62 (by decide +kernel) rfl
theorem fd_RX1_41 : zFd RX1 41 1 7 := ⟨RX1, TX1, 11, rfl, iX1, by decide, fl_RX1_41⟩
theorem fp_RX1_41 : zFp RX1 41 1 7 .int := ⟨RX1, TX1, 11, tyX1, rfl, iX1, by decide, fl_RX1_41, tyX1_ok, nmX1, rfl, by decide +kernel⟩
theorem fl_RX2_28 : Cond.fieldLink RX2 28 (TX1 7).1 (TX1 7).2.1 (TX1 7).2.2.1 ∈ tblG := tbl1 63 (by decide +kernel) rfl
theorem fd_RX2_28 : zFd RX2 28 1 7 := ⟨RX1, TX1, 11, rfl, iX1, by decide, fl_RX2_28⟩
theorem fp_RX2_28 : zFp RX2 28 1 7 .int := ⟨RX1, TX1, 11, tyX1, rfl, iX1, by decide, fl_RX2_28, tyX1_ok, nmX1, rfl, by decide +kernel⟩
theorem fl_RX5_87 : Cond.fieldLink RX5 87 (TX1 7).1 (TX1 7).2.1 (TX1 7).2.2.1 ∈ tblG := tbl1 64 (by decide +kernel) rfl
theorem fd_RX5_87 : zFd RX5 87 1 7 := ⟨RX1, TX1, 11, rfl, iX1, by decide, fl_RX5_87⟩
theorem fp_RX5_87 : zFp RX5 87 1 7 .int := ⟨RX1, TX1, 11, tyX1, rfl, iX1, by decide, fl_RX5_87, tyX1_ok, nmX1, rfl, by decide +kernel⟩
theorem fl_RX4_62 : Cond.fieldLink RX4 62 (TX1 7).1 (TX1 7).2.1 (TX1 7).2.2.1 ∈ tblG := tbl1 65 (by decide +kernel) rfl
theorem fd_RX4_62 : zFd RX4 62 1 7 := ⟨RX1, TX1, 11, rfl, iX1, by decide, fl_RX4_62⟩
theorem fp_RX4_62 : zFp RX4 62 1 7 .int := ⟨RX1, TX1, 11, tyX1, rfl, iX1, by decide, fl_RX4_62, tyX1_ok, nmX1, rfl, by decide +kernel⟩
theorem fl_RX1_44 : Cond.fieldLink RX1 44 (TX1 8).1 (TX1 8).2.1 (TX1 8).2.2.1 ∈ tblG := tbl1 66 (by decide +kernel) rfl
theorem fd_RX1_44 : zFd RX1 44 1 8 := ⟨RX1, TX1, 11, rfl, iX1, by decide, fl_RX1_44⟩
theorem fp_RX1_44 : zFp RX1 44 1 8 .int := ⟨RX1, TX1, 11, tyX1, rfl, iX1, by decide, fl_RX1_44, tyX1_ok, nmX1, rfl, by decide +kernel⟩
theorem fl_RX5_97 : Cond.fieldLink RX5 97 (TX1 8).1 (TX1 8).2.1 (TX1 8).2.2.1 ∈ tblG := tbl1 67 (by decide +kernel) rfl
theorem fd_RX5_97 : zFd RX5 97 1 8 := ⟨RX1, TX1, 11, rfl, iX1, by decide, fl_RX5_97⟩
theorem fp_RX5_97 : zFp RX5 97 1 8 .int := ⟨RX1, TX1, 11, tyX1, rfl, iX1, by decide, fl_RX5_97, tyX1_ok, nmX1, rfl, by decide +kernel⟩
theorem fl_RX4_68 : Cond.fieldLink RX4 68 (TX1 8).1 (TX1 8).2.1 (TX1 8).2.2.1 ∈ tblG := tbl1 68 (by decide +kernel) rfl
theorem fd_RX4_68 : zFd RX4 68 1 8 := ⟨RX1, TX1, 11, rfl, iX1, by decide, fl_RX4_68⟩
theorem fp_RX4_68 : zFp RX4 68 1 8 .int := ⟨RX1, TX1, 11, tyX1, rfl, iX1, by decide, fl_RX4_68, tyX1_ok, nmX1, rfl, by decide +kernel⟩
theorem fl_RX1_47 : Cond.fieldLink RX1 47 (TX1 9).1 (TX1 9).2.1 (TX1 9).2.2.1 ∈ tblG := tbl1 69 (by decide +kernel) rfl
theorem fd_RX1_47 : zFd RX1 47 1 9 := ⟨RX1, TX1, 11, rfl, iX1, by decide, fl_RX1_47⟩
theorem fp_RX1_47 : zFp RX1 47 1 9 .int := ⟨RX1, TX1, 11, tyX1, rfl, iX1, by decide, fl_RX1_47, tyX1_ok, nmX1, rfl, by decide +kernel⟩
theorem fl_RX0_37 : Cond.fieldLink RX0 37 (TX1 9).1 (TX1 9).2.1 (TX1 9).2.2.1 ∈ tblG := tbl1 70 (by decide +kernel) rfl
theorem fd_RX0_37 : zFd RX0 37 1 9 := ⟨RX1, TX1, 11, rfl, iX1, by decide, fl_RX0_37⟩
theorem fp_RX0_37 : zFp RX0 37 1 9 .int := ⟨RX1, TX1, 11, tyX1, rfl, iX1, by decide, fl_RX0_37, tyX1_ok, nmX1, rfl, by decide +kernel⟩
theorem fl_RX5_154 : Cond.fieldLink RX5 154 (TX1 9).1 (TX1 9).2.1 (TX1 9).2.2.1 ∈ tblG := tbl1 71 (by decide +kernel) rfl
theorem fd_RX5_154 : zFd RX5 154 1 9 := ⟨RX1, TX1, 11, rfl, iX1, by decide, fl_RX5_154⟩
theorem fp_RX5_154 : zFp RX5 154 1 9 .int := ⟨RX1, TX1, 11, tyX1, rfl, iX1, by decide, fl_RX5_154, tyX1_ok, nmX1, rfl, by decide +kernel⟩
theorem fl_RX1_34 : Cond.fieldLink RX1 34 (TX1 10).1 (TX1 10).2.1 (TX1 10).2.2.1 ∈ tblG := tbl1 72 (by decide +kernel) rfl
theorem fd_RX1_34 : zFd RX1 34 1 10 := ⟨RX1, TX1, 11, rfl, iX1, by decide, fl_RX1_34⟩
theorem fp_RX1_34 : zFp RX1 34 1 10 .int := ⟨RX1, TX1, 11, tyX1, rfl, iX1, by decide, fl_RX1_34, tyX1_ok, nmX1, rfl, by decide +kernel⟩
theorem fl_RX0_40 : Cond.fieldLink RX0 40 (TX1 10).1 (TX1 10).2.1 (TX1 10).2.2.1 ∈ tblG := tbl1 73 (by decide +kernel) rfl
theorem fd_RX0_40 : zFd RX0 40 1 10 := ⟨RX1, TX1, 11, rfl, iX1, by decide, fl_RX0_40⟩
theorem fp_RX0_40 : zFp RX0 40 1 10 .int := ⟨RX1, TX1, 11, tyX1, rfl, iX1, by decide, fl_RX0_40, tyX1_ok, nmX1, rfl, by decide +kernel⟩
theorem fl_RX5_147 : Cond.fieldLink RX5 147 (TX1 10).1 (TX1 10).2.1 (TX1 10).2.2.1 ∈ tblG := tbl1 74 (by decide +kernel) rfl
theorem fd_RX5_147 : zFd RX5 147 1 10 := ⟨RX1, TX1, 11, rfl, iX1, by decide, fl_RX5_147⟩
theorem fp_RX5_147 : zFp RX5 147 1 10 .int := ⟨RX1, TX1, 11, tyX1, rfl, iX1, by decide, fl_RX5_147, tyX1_ok, nmX1, rfl, by decide +kernel⟩
theorem fl_RX4_11 : Cond.fieldLink RX4 11 (TX4 0).1 (TX4 0).2.1 (TX4 0).2.2.1 ∈ tblG := tbl1 104 (by decide +kernel) rfl
theorem fd_RX4_11 : zFd RX4 11 4 0 := ⟨RX4, TX4, 3, rfl, iX4, by decide, fl_RX4_11⟩
theorem fl_RX4_15 : Cond.fieldLink RX4 15 (TX4 1).1 (TX4 1).2.1 (TX4 1).2.2.1 ∈ tblG := tbl1 105 (by decide +kernel) rfl
theorem fd_RX4_15 : zFd RX4 15 4 1 := ⟨RX4, TX4, 3, rfl, iX4, by decide, fl_RX4_15⟩
theorem fp_RX4_15 : zFp RX4 15 4 1 .int := ⟨RX4, TX4, 3, tyX4, rfl, iX4, by decide, fl_RX4_15, tyX4_ok, nmX4, rfl, by decide +kernel⟩
theorem fl_RX4_19 : Cond.fieldLink RX4 19 (TX4 2).1 (TX4 2).2.1 (TX4 2).2.2.1 ∈ tblG := tbl1 106 (by decide +kernel) rfl
theorem fd_RX4_19 : zFd RX4 19 4 2 := ⟨RX4, TX4, 3, rfl, iX4, by decide, fl_RX4_19⟩
theorem fp_RX4_19 : zFp RX4 19 4 2 .int := ⟨RX4, TX4, 3, tyX4, rfl, iX4, by decide, fl_RX4_19, tyX4_ok, nmX4, rfl, by decide +kernel⟩
theorem fl_RX5_141 : Cond.fieldLink RX5 141 (TX4 2).1 (TX4 2).2.1 (TX4 2).2.2.1 ∈ tblG := tbl1 107 (by decide +kernel) rfl
theorem fd_RX5_141 : zFd RX5 141 4 2 := ⟨RX4, TX4, 3, rfl, iX4, by decide, fl_RX5_141⟩
theorem fp_RX5_141 : zFp RX5 141 4 2 .int := ⟨RX4, TX4, 3, tyX4, rfl, iX4, by decide, fl_RX5_141, tyX4_ok, nmX4, rfl, by decide +kernel⟩
theorem fl_RX3_9 : Cond.fieldLink RX3 9 (TX3 0).1 (TX3 0).2.1 (TX3 0).2.2.1 ∈ tblG := tbl1 121 (by decide +kernel) rfl
theorem fd_RX3_9 : zFd RX3 9 3 0 := ⟨RX3, TX3, 3, rfl, iX3, by decide, fl_RX3_9⟩
theorem fl_RX5_274 : Cond.fieldLink RX5 274 (TX3 0).1 (TX3 0).2.1 (TX3 0).2.2.1 ∈ tblG := tbl1 122 (by decide +kernel) rfl
theorem fd_RX5_274 : zFd RX5 274 3 0 := ⟨RX3, TX3, 3, rfl, iX3, by decide, fl_RX5_274⟩
theorem fl_RX3_15 : Cond.fieldLink RX3 15 (TX3 1).1 (TX3 1).2.1 (TX3 1).2.2.1 ∈ tblG := tbl1 123 (by decide +kernel) rfl
theorem fd_RX3_15 : zFd RX3 15 3 1 := ⟨RX3, TX3, 3, rfl, iX3, by decide, fl_RX3_15⟩
theorem fl_RX3_18 : Cond.fieldLink RX3 18 (TX3 2).1 (TX3 2).2.1 (TX3 2).2.2.1 ∈ tblG := tbl1 124 (by decide +kernel) rfl
theorem fd_RX3_18 : zFd RX3 18 3 2 := ⟨RX3, TX3, 3, rfl, iX3, by decide, fl_RX3_18⟩
theorem fl_RX2_9 : Cond.fieldLink RX2 9 (TX2 0).1 (TX2 0).2.1 (TX2 0).2.2.1 ∈ tblG := tbl1 139 (by decide +kernel) rfl
theorem fd_RX2_9 : zFd RX2 9 2 0 := ⟨RX2, TX2, 5, rfl, iX2, by decide, fl_RX2_9⟩
theorem fl_RX2_15 : Cond.fieldLink RX2 15 (TX2 1).1 (TX2 1).2.1 (TX2 1).2.2.1 ∈ tblG := tbl1 140 (by decide +kernel) rfl
theorem fd_RX2_15 : zFd RX2 15 2 1 := ⟨RX2, TX2, 5, rfl, iX2, by decide, fl_RX2_15⟩
theorem fl_RX2_18 : Cond.fieldLink RX2 18 (TX2 2).1 (TX2 2).2.1 (TX2 2).2.2.1 ∈ tblG := tbl1 141 (by decide +kernel) rfl
theorem fd_RX2_18 : zFd RX2 18 2 2 := ⟨RX2, TX2, 5, rfl, iX2, by decide, fl_RX2_18⟩
theorem fl_RX2_21 : Cond.fieldLink RX2 21 (TX2 3).1 (TX2 3).2.1 (TX2 3).2.2.1 ∈ tblG := tbl1 142 (by decide +kernel) rfl
theorem fd_RX2_21 : zFd RX2 21 2 3 := ⟨RX2, TX2, 5, rfl, iX2, by decide, fl_RX2_21⟩
theorem fl_RX2_24 : Cond.fieldLink RX2 24 (TX2 4).1 (TX2 4).2.1 (TX2 4).2.2.1 ∈ tblG := tbl1 143 (by decide +kernel) rfl
theorem fd_RX2_24 : zFd RX2 24 2 4 := ⟨RX2, TX2, 5, rfl, iX2, by decide, fl_RX2_24⟩
theorem fp_RX2_24 : zFp RX2 24 2 4 .int := ⟨RX2, TX2, 5, tyX2, rfl, iX2, by decide, fl_RX2_24, tyX2_ok, nmX2, rfl, by decide +kernel⟩
theorem fl_RX5_216 : Cond.fieldLink RX5 216 (TX2 4).1 (TX2 4).2.1 (TX2 4).2.2.1 ∈ tblG := tbl1 144 (by decide +kernel) rfl
theorem fd_RX5_216 : zFd RX5 216 2 4 := ⟨RX2, TX2, 5, rfl, iX2, by decide, fl_RX5_216⟩
theorem fp_RX5_216 : zFp RX5 216 2 4 .int := ⟨RX2, TX2, 5, tyX2, rfl, iX2, by decide, fl_RX5_216, tyX2_ok, nmX2, rfl, by decide +kernel⟩
theorem fl_RX5_10 : Cond.fieldLink RX5 10 (TX5 0).1 (TX5 0).2.1 (TX5 0).2.2.1 ∈ tblG := tbl1 156 (by decide +kernel) rfl
theorem fd_RX5_10 : zFd RX5 10 5 0 := ⟨RX5, TX5, 9, rfl, iX5, by decide, fl_RX5_10⟩
theorem fl_RX5_16 : Cond.fieldLink RX5 16 (TX5 1).1 (TX5 1).2.1 (TX5 1).2.2.1 ∈ tblG := tbl1 157 (by decide +kernel) rfl
theorem fd_RX5_16 : zFd RX5 16 5 1 := ⟨RX5, TX5, 9, rfl, iX5, by decide, fl_RX5_16⟩
theorem fl_RX5_19 : Cond.fieldLink RX5 19 (TX5 2).1 (TX5 2).2.1 (TX5 2).2.2.1 ∈ tblG := tbl1 158 (by decide +kernel) rfl
theorem fd_RX5_19 : zFd RX5 19 5 2 := ⟨RX5, TX5, 9, rfl, iX5, by decide, fl_RX5_19⟩
theorem fl_RX5_25 : Cond.fieldLink RX5 25 (TX5 3).1 (TX5 3).2.1 (TX5 3).2.2.1 ∈ tblG := tbl1 159 (by decide +kernel) rfl
theorem fd_RX5_25 : zFd RX5 25 5 3 := ⟨RX5, TX5, 9, rfl, iX5, by decide, fl_RX5_25⟩
theorem fl_RX5_32 : Cond.fieldLink RX5 32 (TX5 4).1 (TX5 4).2.1 (TX5 4).2.2.1 ∈ tblG := tbl1 160 (by decide +kernel) rfl
theorem fd_RX5_32 : zFd RX5 32 5 4 := ⟨RX5, TX5, 9, rfl, iX5, by decide, fl_RX5_32⟩
theorem fl_RX5_39 : Cond.fieldLink RX5 39 (TX5 5).1 (TX5 5).2.1 (TX5 5).2.2.1 ∈ tblG := tbl1 161 (by decide +kernel) rfl
theorem fd_RX5_39 : zFd RX5 39 5 5 := ⟨RX5, TX5, 9, rfl, iX5, by decide, fl_RX5_39⟩
theorem fl_RX5_43 : Cond.fieldLink RX5 43 (TX5 6).1 (TX5 6).2.1 (TX5 6).2.2.1 ∈ tblG := tbl1 162 (by decide +kernel) rfl
theorem fd_RX5_43 : zFd RX5 43 5 6 := ⟨RX5, TX5, 9, rfl, iX5, by decide, fl_RX5_43⟩
theorem fl_RX5_47 : Cond.fieldLink RX5 47 (TX5 7).1 (TX5 7).2.1 (TX5 7).2.2.1 ∈ tblG := tbl1 163 (by decide +kernel) rfl
theorem fd_RX5_47 : zFd RX5 47 5 7 := ⟨RX5, TX5, 9, rfl, iX5, by decide, fl_RX5_47⟩
theorem fl_RX5_50 : Cond.fieldLink RX5 50 (TX5 8).1 (TX5 8).2.1 (TX5 8).2.2.1 ∈ tblG := tbl1 164 (by decide +kernel) rfl
theorem fd_RX5_50 : zFd RX5 50 5 8 := ⟨RX5, TX5, 9, rfl, iX5, by decide, fl_RX5_50⟩
theorem fp_RX5_50 : zFp RX5 50 5 8 .boolean := ⟨RX5, TX5, 9, tyX5, rfl, iX5, by decide, fl_RX5_50, tyX5_ok, nmX5, rfl, by decide +kernel⟩
theorem fl_RX6_7 : Cond.fieldLink RX6 7 (TX6 0).1 (TX6 0).2.1 (TX6 0).2.2.1 ∈ tblG := tbl1 644 (by decide +kernel) rfl
theorem fd_RX6_7 : zFd RX6 7 6 0 := ⟨RX6, TX6, 16, rfl, iX6, by decide, fl_RX6_7⟩
theorem fl_RX6_199 : Cond.fieldLink RX6 199 (TX6 1).1 (TX6 1).2.1 (TX6 1).2.2.1 ∈ tblG := tbl1 645 (by decide +kernel) rfl
theorem fd_RX6_199 : zFd RX6 199 6 1 := ⟨RX6, TX6, 16, rfl, iX6, by decide, fl_RX6_199⟩
theorem fp_RX6_199 : zFp RX6 199 6 1 .boolean := ⟨RX6, TX6, 16, tyX6, rfl, iX6, by decide, fl_RX6_199, tyX6_ok, nmX6, rfl, by decide +kernel⟩
theorem fl_RX6_13 : Cond.fieldLink RX6 13 (TX6 2).1 (TX6 2).2.1 (TX6 2).2.2.1 ∈ tblG := tbl1 646 (by decide +kernel) rfl
theorem fd_RX6_13 : zFd RX6 13 6 2 := ⟨RX6, TX6, 16, rfl, iX6, by decide, fl_RX6_13⟩
theorem fl_RX6_110 : Cond.fieldLink RX6 110 (TX6 3).1 (TX6 3).2.1 (TX6 3).2.2.1 ∈ tblG := tbl1 647 (by decide +kernel) rfl
theorem fd_RX6_110 : zFd RX6 110 6 3 := ⟨RX6, TX6, 16, rfl, iX6, by decide, fl_RX6_110⟩
theorem fp_RX6_110 : zFp RX6 110 6 3 .int := ⟨RX6, TX6, 16, tyX6, rfl, iX6, by decide, fl_RX6_110, tyX6_ok, nmX6, rfl, by decide +kernel⟩
theorem fl_RX6_16 : Cond.fieldLink RX6 16 (TX6 4).1 (TX6 4).2.1 (TX6 4).2.2.1 ∈ tblG := tbl1 648 (by decide +kernel) rfl
theorem fd_RX6_16 : zFd RX6 16 6 4 := ⟨RX6, TX6, 16, rfl, iX6, by decide, fl_RX6_16⟩
theorem fl_RX6_20 : Cond.fieldLink RX6 20 (TX6 5).1 (TX6 5).2.1 (TX6 5).2.2.1 ∈ tblG := tbl1 649 (by decide +kernel) rfl
theorem fd_RX6_20 : zFd RX6 20 6 5 := ⟨RX6, TX6, 16, rfl, iX6, by decide, fl_RX6_20⟩
theorem fl_RX6_23 : Cond.fieldLink RX6 23 (TX6 6).1 (TX6 6).2.1 (TX6 6).2.2.1 ∈ tblG := tbl1 650 (by decide +kernel) rfl
theorem fd_RX6_23 : zFd RX6 23 6 6 := ⟨RX6, TX6, 16, rfl, iX6, by decide, fl_RX6_23⟩
theorem fl_RX6_26 : Cond.fieldLink RX6 26 (TX6 7).1 (TX6 7).2.1 (TX6 7).2.2.1 ∈ tblG := tbl1 651 (by decide +kernel) rfl
theorem fd_RX6_26 : zFd RX6 26 6 7 := ⟨RX6, TX6, 16, rfl, iX6, by decide, fl_RX6_26⟩
theorem fl_RX6_114 : Cond.fieldLink RX6 114 (TX6 8).1 (TX6 8).2.1 (TX6 8).2.2.1 ∈ tblG := tbl1 652 (by decide +kernel) rfl
theorem fd_RX6_114 : zFd RX6 114 6 8 := ⟨RX6, TX6, 16, rfl, iX6, by decide, fl_RX6_114⟩
theorem fp_RX6_114 : zFp RX6 114 6 8 .int := ⟨RX6, TX6, 16, tyX6, rfl, iX6, by decide, fl_RX6_114, tyX6_ok, nmX6, rfl, by decide +kernel⟩
theorem fl_RX6_29 : Cond.fieldLink RX6 29 (TX6 9).1 (TX6 9).2.1 (TX6 9).2.2.1 ∈ tblG := tbl1 653 (by decide +kernel) rfl
theorem fd_RX6_29 : zFd RX6 29 6 9 := ⟨RX6, TX6, 16, rfl, iX6, by decide, fl_RX6_29⟩
theorem fl_RX6_32 : Cond.fieldLink RX6 32 (TX6 10).1 (TX6 10).2.1 (TX6 10).2.2.1 ∈ tblG := tbl1 654 (by decide +kernel) rfl
theorem fd_RX6_32 : zFd RX6 32 6 10 := ⟨RX6, TX6, 16, rfl, iX6, by decide, fl_RX6_32⟩
theorem fl_RX6_35 : Cond.fieldLink RX6 35 (TX6 11).1 (TX6 11).2.1 (TX6 11).2.2.1 ∈ tblG := tbl1 655 (by decide +kernel) rfl
theorem fd_RX6_35 : zFd RX6 35 6 11 := ⟨RX6, TX6, 16, rfl, iX6, by decide, fl_RX6_35⟩
theorem fl_RX6_38 : Cond.fieldLink RX6 38 (TX6 12).1 (TX6 12).2.1 (TX6 12).2.2.1 ∈ tblG := tbl1 656 (by decide +kernel) rfl
theorem fd_RX6_38 : zFd RX6 38 6 12 := ⟨RX6, TX6, 16, rfl, iX6, by decide, fl_RX6_38⟩
theorem fl_RX6_41 : Cond.fieldLink RX6 41 (TX6 13).1 (TX6 13).2.1 (TX6 13).2.2.1 ∈ tblG := tbl1 657 (by decide +kernel) rfl
theorem fd_RX6_41 : zFd RX6 41 6 13 := ⟨RX6, TX6, 16, rfl, iX6, by decide, fl_RX6_41⟩
theorem fl_RX6_44 : Cond.fieldLink RX6 44 (TX6 14).1 (TX6 14).2.1 (TX6 14).2.2.1 ∈ tblG := tbl1 658 (by decide +kernel) rfl
theorem fd_RX6_44 : zFd RX6 44 6 14 := ⟨RX6, TX6, 16, rfl, iX6, by decide, fl_RX6_44⟩
theorem fl_RX6_47 : Cond.fieldLink RX6 47 (TX6 15).1 (TX6 15).2.1 (TX6 15).2.2.1 ∈ tblG := tbl1 659 (by decide +kernel) rfl
theorem fd_RX6_47 : zFd RX6 47 6 15 := ⟨RX6, TX6, 16, rfl, iX6, by decide, fl_RX6_47⟩
theorem in_RL : Cond.initialized RL ∈ tblG := tbl1 0 (by decide +kernel) rfl
theorem in_RX5 : Cond.initialized RX5 ∈ tblG := tbl1 1 (by decide +kernel) rfl
theorem in_RX1 : Cond.initialized RX1 ∈ tblG := tbl1 2 (by decide +kernel) rfl
theorem in_RX0 : Cond.initialized RX0 ∈ tblG := tbl1 3 (by decide +kernel) rfl
theorem in_RX4 : Cond.initialized RX4 ∈ tblG := tbl1 4 (by decide +kernel) rfl
theorem in_RX3 : Cond.initialized RX3 ∈ tblG := tbl1 5 (by decide +kernel) rfl
theorem in_RX2 : Cond.initialized RX2 ∈ tblG := tbl1 6 (by decide +kernel) rfl
theorem in_RX6 : Cond.initialized RX6 ∈ tblG := tbl1 7 (by decide +kernel) rfl
theorem in_RJ6 : Cond.initialized RJ6 ∈ tblG := tbl1 8 (by decide +kernel) rfl
theorem in_RJ10 : Cond.initialized RJ10 ∈ tblG := tbl1 9 (by decide +kernel) rfl
theorem in_RJ9 : Cond.initialized RJ9 ∈ tblG := tbl1 10 (by decide +kernel) rfl
theorem cn_RJ6_265 : Cond.constant RJ6 265 (1431655765) ∈ tblG := tbl1 300 (by decide +kernel) rfl
theorem cn_RJ6_266 : Cond.constant RJ6 266 (858993459) ∈ tblG := tbl1 301 (by decide +kernel) rfl
theorem cn_RJ6_267 : Cond.constant RJ6 267 (252645135) ∈ tblG := tbl1 302 (by decide +kernel) rfl
theorem cn_RX1_104 : Cond.constant RX1 104 (65536) ∈ tblG := tbl1 441 (by decide +kernel) rfl
theorem cn_RX5_190 : Cond.constant RX5 190 (2000000000) ∈ tblG := tbl1 459 (by decide +kernel) rfl
theorem cn_RX6_167 : Cond.constant RX6 167 (65536) ∈ tblG := tbl1 868 (by decide +kernel) rfl
theorem cn_RX6_182 : Cond.constant RX6 182 (1000000) ∈ tblG := tbl1 918 (by decide +kernel) rfl
theorem cn_RX1_98 : Cond.constantLong RX1 98 (1103515245) ∈ tblG := tbl1 438 (by decide +kernel) rfl
theorem cn_RX1_100 : Cond.constantLong RX1 100 (12345) ∈ tblG := tbl1 439 (by decide +kernel) rfl
theorem cn_RX1_102 : Cond.constantLong RX1 102 (2147483647) ∈ tblG := tbl1 440 (by decide +kernel) rfl
theorem cn_RX6_50 : Cond.constantLong RX6 50 (7) ∈ tblG := tbl1 700 (by decide +kernel) rfl
theorem cn_RX6_85 : Cond.constantLong RX6 85 (4) ∈ tblG := tbl1 715 (by decide +kernel) rfl
theorem cn_RX6_106 : Cond.constantLong RX6 106 (32) ∈ tblG := tbl1 784 (by decide +kernel) rfl
theorem cn_RX6_108 : Cond.constantLong RX6 108 (126) ∈ tblG := tbl1 785 (by decide +kernel) rfl
theorem cn_RX6_146 : Cond.constantLong RX6 146 (40) ∈ tblG := tbl1 833 (by decide +kernel) rfl
theorem cn_RX6_161 : Cond.constantLong RX6 161 (1103515245) ∈ tblG := tbl1 865 (by decide +kernel) rfl
theorem cn_RX6_163 : Cond.constantLong RX6 163 (12345) ∈ tblG := tbl1 866 (by decide +kernel) rfl
theorem cn_RX6_165 : Cond.constantLong RX6 165 (2147483648) ∈ tblG := tbl1 867 (by decide +kernel) rfl
theorem cn_RX6_174 : Cond.constantLong RX6 174 (2000000000) ∈ tblG := tbl1 884 (by decide +kernel) rfl
theorem cn_RX6_186 : Cond.constantLong RX6 186 (255) ∈ tblG := tbl1 913 (by decide +kernel) rfl
theorem cn_RX6_197 : Cond.constantLong RX6 197 (8) ∈ tblG := tbl1 942 (by decide +kernel) rfl
theorem cn_RX6_203 : Cond.constantLong RX6 203 (3) ∈ tblG := tbl1 961 (by decide +kernel) rfl
theorem cn_RX6_211 : Cond.constantLong RX6 211 (2) ∈ tblG := tbl1 962 (by decide +kernel) rfl
theorem cn_RX6_217 : Cond.constantLong RX6 217 (24) ∈ tblG := tbl1 975 (by decide +kernel) rfl
theorem cn_RL_153 : Cond.constantLong RL 153 (4294967295) ∈ tblG := tbl1 995 (by decide +kernel) rfl
theorem ac_nat : Cond.native arraycopyName ∈ tblG := tbl1 372 (by decide +kernel) rfl
theorem ac_sta : Cond.static arraycopyName ∈ tblG := tbl1 371 (by decide +kernel) rfl
theorem ml_RL_9 : Cond.methodLink RL 9 yX5_init ∈ tblG := tbl1 13 (by decide +kernel) rfl
theorem ml_RL_13 : Cond.methodLink RL 13 yX5_angel ∈ tblG := tbl1 184 (by decide +kernel) rfl
theorem ml_RX5_54 : Cond.methodLink RX5 54 yX5_isPlace ∈ tblG := tbl1 188 (by decide +kernel) rfl
theorem ml_RX5_83 : Cond.methodLink RX5 83 yX5_within ∈ tblG := tbl1 191 (by decide +kernel) rfl
theorem ml_RX5_62 : Cond.methodLink RX5 62 yX1_standing ∈ tblG := tbl1 194 (by decide +kernel) rfl
theorem ml_RX5_66 : Cond.methodLink RX5 66 yX5_holds ∈ tblG := tbl1 201 (by decide +kernel) rfl
theorem ml_RX5_291 : Cond.methodLink RX5 291 yX5_leftBy8 ∈ tblG := tbl1 204 (by decide +kernel) rfl
theorem ml_RX5_74 : Cond.methodLink RX5 74 yX0_forget ∈ tblG := tbl1 207 (by decide +kernel) rfl
theorem ml_RX5_79 : Cond.methodLink RX5 79 yX1_addAngel ∈ tblG := tbl1 211 (by decide +kernel) rfl
theorem ml_RL_18 : Cond.methodLink RL 18 yX5_figure ∈ tblG := tbl1 215 (by decide +kernel) rfl
theorem ml_RX5_90 : Cond.methodLink RX5 90 yX1_addFigure ∈ tblG := tbl1 219 (by decide +kernel) rfl
theorem ml_RX1_63 : Cond.methodLink RX1 63 yX1_tell ∈ tblG := tbl1 223 (by decide +kernel) rfl
theorem ml_RL_23 : Cond.methodLink RL 23 yX5_tune ∈ tblG := tbl1 230 (by decide +kernel) rfl
theorem ml_RX5_94 : Cond.methodLink RX5 94 yX1_hasFigure ∈ tblG := tbl1 234 (by decide +kernel) rfl
theorem ml_RX5_100 : Cond.methodLink RX5 100 yX1_addToTune ∈ tblG := tbl1 238 (by decide +kernel) rfl
theorem ml_RL_27 : Cond.methodLink RL 27 yX5_hush ∈ tblG := tbl1 242 (by decide +kernel) rfl
theorem ml_RL_32 : Cond.methodLink RL 32 yX5_of ∈ tblG := tbl1 246 (by decide +kernel) rfl
theorem ml_RX5_109 : Cond.methodLink RX5 109 yX1_orderOf ∈ tblG := tbl1 250 (by decide +kernel) rfl
theorem ml_RX1_83 : Cond.methodLink RX1 83 yX1_turnsTillBack ∈ tblG := tbl1 254 (by decide +kernel) rfl
theorem ml_RX1_79 : Cond.methodLink RX1 79 yX1_ledBy ∈ tblG := tbl1 258 (by decide +kernel) rfl
theorem ml_RX5_112 : Cond.methodLink RX5 112 yX1_keptBy ∈ tblG := tbl1 265 (by decide +kernel) rfl
theorem ml_RX5_115 : Cond.methodLink RX5 115 yX1_leastLike ∈ tblG := tbl1 269 (by decide +kernel) rfl
theorem ml_RX1_89 : Cond.methodLink RX1 89 yX1_leadAlike ∈ tblG := tbl1 273 (by decide +kernel) rfl
theorem ml_RL_36 : Cond.methodLink RL 36 yX5_leads ∈ tblG := tbl1 277 (by decide +kernel) rfl
theorem ml_RX5_118 : Cond.methodLink RX5 118 yX1_ledBy ∈ tblG := tbl1 281 (by decide +kernel) rfl
theorem ml_RL_40 : Cond.methodLink RL 40 yX5_at ∈ tblG := tbl1 282 (by decide +kernel) rfl
theorem ml_RX5_121 : Cond.methodLink RX5 121 yX1_hasAngel ∈ tblG := tbl1 286 (by decide +kernel) rfl
theorem ml_RL_44 : Cond.methodLink RL 44 yX5_seen ∈ tblG := tbl1 290 (by decide +kernel) rfl
theorem ml_RX5_127 : Cond.methodLink RX5 127 yX5_seenFrom ∈ tblG := tbl1 294 (by decide +kernel) rfl
theorem ml_RX5_179 : Cond.methodLink RX5 179 yJ6_bitCount_0f7a4 ∈ tblG := tbl1 297 (by decide +kernel) rfl
theorem ml_RL_48 : Cond.methodLink RL 48 yX5_type ∈ tblG := tbl1 303 (by decide +kernel) rfl
theorem ml_RX5_130 : Cond.methodLink RX5 130 yX4_isFull ∈ tblG := tbl1 307 (by decide +kernel) rfl
theorem ml_RX5_134 : Cond.methodLink RX5 134 yX4_put ∈ tblG := tbl1 311 (by decide +kernel) rfl
theorem ml_RL_52 : Cond.methodLink RL 52 yX5_ring ∈ tblG := tbl1 315 (by decide +kernel) rfl
theorem ml_RX5_137 : Cond.methodLink RX5 137 yX4_readInto ∈ tblG := tbl1 319 (by decide +kernel) rfl
theorem ml_RX4_22 : Cond.methodLink RX4 22 yX1_clear ∈ tblG := tbl1 323 (by decide +kernel) rfl
theorem ml_RX1_50 : Cond.methodLink RX1 50 yX0_forget ∈ tblG := tbl1 327 (by decide +kernel) rfl
theorem ml_RX4_27 : Cond.methodLink RX4 27 yX4_readPlaces ∈ tblG := tbl1 328 (by decide +kernel) rfl
theorem ml_RX4_38 : Cond.methodLink RX4 38 yX4_takes ∈ tblG := tbl1 332 (by decide +kernel) rfl
theorem ml_RX4_34 : Cond.methodLink RX4 34 yX4_next ∈ tblG := tbl1 336 (by decide +kernel) rfl
theorem ml_RX4_42 : Cond.methodLink RX4 42 yX1_addAngel ∈ tblG := tbl1 340 (by decide +kernel) rfl
theorem ml_RX4_31 : Cond.methodLink RX4 31 yX4_readFigures ∈ tblG := tbl1 341 (by decide +kernel) rfl
theorem ml_RX4_46 : Cond.methodLink RX4 46 yX4_readFigure ∈ tblG := tbl1 345 (by decide +kernel) rfl
theorem ml_RX4_52 : Cond.methodLink RX4 52 yX4_kindOf ∈ tblG := tbl1 349 (by decide +kernel) rfl
theorem ml_RX4_55 : Cond.methodLink RX4 55 yX4_takeDigit ∈ tblG := tbl1 352 (by decide +kernel) rfl
theorem ml_RX4_58 : Cond.methodLink RX4 58 yX1_addFigure ∈ tblG := tbl1 356 (by decide +kernel) rfl
theorem ml_RX4_49 : Cond.methodLink RX4 49 yX4_readTune ∈ tblG := tbl1 357 (by decide +kernel) rfl
theorem ml_RX4_65 : Cond.methodLink RX4 65 yX1_addToTune ∈ tblG := tbl1 361 (by decide +kernel) rfl
theorem ml_RX5_144 : Cond.methodLink RX5 144 yX4_wipe ∈ tblG := tbl1 362 (by decide +kernel) rfl
theorem ml_RX5_150 : Cond.methodLink RX5 150 yX1_becomeLike ∈ tblG := tbl1 366 (by decide +kernel) rfl
theorem ac_RX1_53 : zAc RX1 53 := ⟨tbl1 370 (by decide +kernel) rfl, ac_nat, ac_sta, in_RJ10⟩
theorem ml_RX1_59 : Cond.methodLink RX1 59 yX0_becomeLike ∈ tblG := tbl1 373 (by decide +kernel) rfl
theorem ac_RX0_25 : zAc RX0 25 := ⟨tbl1 377 (by decide +kernel) rfl, ac_nat, ac_sta, in_RJ10⟩
theorem ml_RL_56 : Cond.methodLink RL 56 yX5_count ∈ tblG := tbl1 378 (by decide +kernel) rfl
theorem ml_RX5_157 : Cond.methodLink RX5 157 yX1_goneOnes ∈ tblG := tbl1 382 (by decide +kernel) rfl
theorem ml_RX5_160 : Cond.methodLink RX5 160 yX1_figureOfBeat ∈ tblG := tbl1 386 (by decide +kernel) rfl
theorem ml_RL_60 : Cond.methodLink RL 60 yX5_beats ∈ tblG := tbl1 390 (by decide +kernel) rfl
theorem ml_RX5_166 : Cond.methodLink RX5 166 yX5_refusedBeats ∈ tblG := tbl1 394 (by decide +kernel) rfl
theorem ml_RX5_169 : Cond.methodLink RX5 169 yX0_note ∈ tblG := tbl1 398 (by decide +kernel) rfl
theorem ml_RX0_43 : Cond.methodLink RX0 43 yJ9_min_7cf53 ∈ tblG := tbl1 402 (by decide +kernel) rfl
theorem ml_RX5_172 : Cond.methodLink RX5 172 yX1_dance ∈ tblG := tbl1 405 (by decide +kernel) rfl
theorem ml_RX1_92 : Cond.methodLink RX1 92 yX1_goesOn ∈ tblG := tbl1 409 (by decide +kernel) rfl
theorem ml_RL_64 : Cond.methodLink RL 64 yX5_draught ∈ tblG := tbl1 413 (by decide +kernel) rfl
theorem ml_RX5_175 : Cond.methodLink RX5 175 yX1_blow ∈ tblG := tbl1 417 (by decide +kernel) rfl
theorem ml_RL_68 : Cond.methodLink RL 68 yX5_leave ∈ tblG := tbl1 422 (by decide +kernel) rfl
theorem ml_RL_72 : Cond.methodLink RL 72 yX5_come ∈ tblG := tbl1 426 (by decide +kernel) rfl
theorem ml_RL_76 : Cond.methodLink RL 76 yX5_drift ∈ tblG := tbl1 430 (by decide +kernel) rfl
theorem ml_RX5_184 : Cond.methodLink RX5 184 yX1_drawAndBlow ∈ tblG := tbl1 434 (by decide +kernel) rfl
theorem ml_RX1_105 : Cond.methodLink RX1 105 yX1_blow ∈ tblG := tbl1 442 (by decide +kernel) rfl
theorem ml_RL_80 : Cond.methodLink RL 80 yX5_undo ∈ tblG := tbl1 443 (by decide +kernel) rfl
theorem ml_RX5_187 : Cond.methodLink RX5 187 yX0_bringBack ∈ tblG := tbl1 447 (by decide +kernel) rfl
theorem ml_RL_84 : Cond.methodLink RL 84 yX5_seed ∈ tblG := tbl1 451 (by decide +kernel) rfl
theorem ml_RL_88 : Cond.methodLink RL 88 yX5_ahead ∈ tblG := tbl1 455 (by decide +kernel) rfl
theorem ml_RX5_191 : Cond.methodLink RX5 191 yX1_placeBehind ∈ tblG := tbl1 460 (by decide +kernel) rfl
theorem ml_RX1_112 : Cond.methodLink RX1 112 yX1_roundsTillBack ∈ tblG := tbl1 464 (by decide +kernel) rfl
theorem ml_RX1_109 : Cond.methodLink RX1 109 yX1_walk ∈ tblG := tbl1 468 (by decide +kernel) rfl
theorem ml_RL_92 : Cond.methodLink RL 92 yX5_then ∈ tblG := tbl1 472 (by decide +kernel) rfl
theorem ml_RX5_194 : Cond.methodLink RX5 194 yX5_bitOf ∈ tblG := tbl1 476 (by decide +kernel) rfl
theorem ml_RL_97 : Cond.methodLink RL 97 yX5_back ∈ tblG := tbl1 477 (by decide +kernel) rfl
theorem ml_RX5_197 : Cond.methodLink RX5 197 yX5_roundsTillAllBack ∈ tblG := tbl1 481 (by decide +kernel) rfl
theorem ml_RX5_200 : Cond.methodLink RX5 200 yX1_roundsTillBack ∈ tblG := tbl1 485 (by decide +kernel) rfl
theorem ml_RX5_229 : Cond.methodLink RX5 229 yX5_greatestCommon ∈ tblG := tbl1 486 (by decide +kernel) rfl
theorem ml_RL_101 : Cond.methodLink RL 101 yX5_been ∈ tblG := tbl1 487 (by decide +kernel) rfl
theorem ml_RX5_203 : Cond.methodLink RX5 203 yX1_goesOn ∈ tblG := tbl1 491 (by decide +kernel) rfl
theorem ml_RL_105 : Cond.methodLink RL 105 yX5_shortest ∈ tblG := tbl1 492 (by decide +kernel) rfl
theorem ml_RX5_206 : Cond.methodLink RX5 206 yX2_explore ∈ tblG := tbl1 496 (by decide +kernel) rfl
theorem ml_RX2_33 : Cond.methodLink RX2 33 yX1_setLedBy ∈ tblG := tbl1 500 (by decide +kernel) rfl
theorem ml_RX2_37 : Cond.methodLink RX2 37 yX2_comeTo ∈ tblG := tbl1 505 (by decide +kernel) rfl
theorem ml_RX5_210 : Cond.methodLink RX5 210 yX2_howFar ∈ tblG := tbl1 509 (by decide +kernel) rfl
theorem ml_RX5_213 : Cond.methodLink RX5 213 yX2_figureOnWay ∈ tblG := tbl1 513 (by decide +kernel) rfl
theorem ml_RL_109 : Cond.methodLink RL 109 yX5_sorts ∈ tblG := tbl1 517 (by decide +kernel) rfl
theorem ml_RL_113 : Cond.methodLink RL 113 yX5_apart ∈ tblG := tbl1 521 (by decide +kernel) rfl
theorem ml_RX5_219 : Cond.methodLink RX5 219 yX2_widestPair ∈ tblG := tbl1 525 (by decide +kernel) rfl
theorem ml_RX5_222 : Cond.methodLink RX5 222 yX5_span ∈ tblG := tbl1 532 (by decide +kernel) rfl
theorem ml_RL_117 : Cond.methodLink RL 117 yX5_chance ∈ tblG := tbl1 533 (by decide +kernel) rfl
theorem ml_RX5_225 : Cond.methodLink RX5 225 yX5_countWays ∈ tblG := tbl1 537 (by decide +kernel) rfl
theorem ml_RX5_284 : Cond.methodLink RX5 284 yX5_countWaysOn ∈ tblG := tbl1 541 (by decide +kernel) rfl
theorem ml_RL_122 : Cond.methodLink RL 122 yX5_image ∈ tblG := tbl1 545 (by decide +kernel) rfl
theorem ml_RL_126 : Cond.methodLink RL 126 yX5_restore ∈ tblG := tbl1 549 (by decide +kernel) rfl
theorem ml_RL_130 : Cond.methodLink RL 130 yX5_counts ∈ tblG := tbl1 553 (by decide +kernel) rfl
theorem ml_RX5_232 : Cond.methodLink RX5 232 yX5_isSheet ∈ tblG := tbl1 557 (by decide +kernel) rfl
theorem ml_RX5_235 : Cond.methodLink RX5 235 yX5_isLane ∈ tblG := tbl1 560 (by decide +kernel) rfl
theorem ml_RX5_238 : Cond.methodLink RX5 238 yX3_refused ∈ tblG := tbl1 563 (by decide +kernel) rfl
theorem ml_RX3_22 : Cond.methodLink RX3 22 yX3_isThere ∈ tblG := tbl1 567 (by decide +kernel) rfl
theorem ml_RX3_26 : Cond.methodLink RX3 26 yX3_hasItems ∈ tblG := tbl1 571 (by decide +kernel) rfl
theorem ml_RX5_242 : Cond.methodLink RX5 242 yX5_isSeenAsTold ∈ tblG := tbl1 575 (by decide +kernel) rfl
theorem ml_RX5_287 : Cond.methodLink RX5 287 yX3_itemOf ∈ tblG := tbl1 579 (by decide +kernel) rfl
theorem ml_RX5_246 : Cond.methodLink RX5 246 yJ9_min_7cf53 ∈ tblG := tbl1 583 (by decide +kernel) rfl
theorem ml_RX5_251 : Cond.methodLink RX5 251 yJ9_max_7cf53 ∈ tblG := tbl1 584 (by decide +kernel) rfl
theorem ml_RL_135 : Cond.methodLink RL 135 yX5_steps ∈ tblG := tbl1 587 (by decide +kernel) rfl
theorem ml_RX5_254 : Cond.methodLink RX5 254 yX1_tell ∈ tblG := tbl1 591 (by decide +kernel) rfl
theorem ml_RX5_258 : Cond.methodLink RX5 258 yX5_goesAsTold ∈ tblG := tbl1 592 (by decide +kernel) rfl
theorem ml_RL_140 : Cond.methodLink RL 140 yX5_film ∈ tblG := tbl1 596 (by decide +kernel) rfl
theorem ml_RX5_262 : Cond.methodLink RX5 262 yX3_put ∈ tblG := tbl1 600 (by decide +kernel) rfl
theorem ml_RX3_30 : Cond.methodLink RX3 30 yX3_lowestBits ∈ tblG := tbl1 604 (by decide +kernel) rfl
theorem ml_RL_145 : Cond.methodLink RL 145 yX5_sheet ∈ tblG := tbl1 607 (by decide +kernel) rfl
theorem ml_RX5_265 : Cond.methodLink RX5 265 yX3_renew ∈ tblG := tbl1 611 (by decide +kernel) rfl
theorem ml_RL_149 : Cond.methodLink RL 149 yX5_drop ∈ tblG := tbl1 615 (by decide +kernel) rfl
theorem ml_RX5_268 : Cond.methodLink RX5 268 yX3_isThere ∈ tblG := tbl1 619 (by decide +kernel) rfl
theorem ml_RX5_271 : Cond.methodLink RX5 271 yX3_takeAway ∈ tblG := tbl1 620 (by decide +kernel) rfl
theorem ml_RL_155 : Cond.methodLink RL 155 yX5_item ∈ tblG := tbl1 624 (by decide +kernel) rfl
theorem ml_RL_160 : Cond.methodLink RL 160 yX5_copy ∈ tblG := tbl1 628 (by decide +kernel) rfl
theorem ml_RX5_277 : Cond.methodLink RX5 277 yX3_hasItems ∈ tblG := tbl1 632 (by decide +kernel) rfl
theorem ml_RX5_280 : Cond.methodLink RX5 280 yX3_carry ∈ tblG := tbl1 633 (by decide +kernel) rfl
theorem ac_RX3_34 : zAc RX3 34 := ⟨tbl1 637 (by decide +kernel) rfl, ac_nat, ac_sta, in_RJ10⟩
theorem ml_RL_12 : Cond.methodLink RL 12 yX6_init ∈ tblG := tbl1 640 (by decide +kernel) rfl
theorem ml_RL_17 : Cond.methodLink RL 17 yX6_angel ∈ tblG := tbl1 693 (by decide +kernel) rfl
theorem ml_RX6_74 : Cond.methodLink RX6 74 yX6_isPlace ∈ tblG := tbl1 697 (by decide +kernel) rfl
theorem ml_RX6_52 : Cond.methodLink RX6 52 yX6_in ∈ tblG := tbl1 701 (by decide +kernel) rfl
theorem ml_RX6_78 : Cond.methodLink RX6 78 yX6_taken ∈ tblG := tbl1 704 (by decide +kernel) rfl
theorem ml_RX6_82 : Cond.methodLink RX6 82 yX6_has ∈ tblG := tbl1 708 (by decide +kernel) rfl
theorem ml_RL_22 : Cond.methodLink RL 22 yX6_figure ∈ tblG := tbl1 711 (by decide +kernel) rfl
theorem ml_RL_26 : Cond.methodLink RL 26 yX6_tune ∈ tblG := tbl1 716 (by decide +kernel) rfl
theorem ml_RX6_87 : Cond.methodLink RX6 87 yX6_isFigure ∈ tblG := tbl1 720 (by decide +kernel) rfl
theorem ml_RL_31 : Cond.methodLink RL 31 yX6_hush ∈ tblG := tbl1 724 (by decide +kernel) rfl
theorem ml_RL_35 : Cond.methodLink RL 35 yX6_of ∈ tblG := tbl1 728 (by decide +kernel) rfl
theorem ml_RX6_90 : Cond.methodLink RX6 90 yX6_orderOf ∈ tblG := tbl1 732 (by decide +kernel) rfl
theorem ml_RX6_67 : Cond.methodLink RX6 67 yX6_leadsOf ∈ tblG := tbl1 736 (by decide +kernel) rfl
theorem ml_RX6_63 : Cond.methodLink RX6 63 yX6_leadsBy ∈ tblG := tbl1 740 (by decide +kernel) rfl
theorem ml_RX6_56 : Cond.methodLink RX6 56 yX6_round ∈ tblG := tbl1 743 (by decide +kernel) rfl
theorem ml_RX6_60 : Cond.methodLink RX6 60 yX6_mirror ∈ tblG := tbl1 746 (by decide +kernel) rfl
theorem ml_RX6_94 : Cond.methodLink RX6 94 yX6_keptBy ∈ tblG := tbl1 749 (by decide +kernel) rfl
theorem ml_RX6_97 : Cond.methodLink RX6 97 yX6_sameAs ∈ tblG := tbl1 753 (by decide +kernel) rfl
theorem ml_RX6_70 : Cond.methodLink RX6 70 yX6_areAlike ∈ tblG := tbl1 757 (by decide +kernel) rfl
theorem ml_RL_39 : Cond.methodLink RL 39 yX6_leads ∈ tblG := tbl1 761 (by decide +kernel) rfl
theorem ml_RL_43 : Cond.methodLink RL 43 yX6_at ∈ tblG := tbl1 765 (by decide +kernel) rfl
theorem ml_RX6_100 : Cond.methodLink RX6 100 yX6_isAngel ∈ tblG := tbl1 769 (by decide +kernel) rfl
theorem ml_RL_47 : Cond.methodLink RL 47 yX6_seen ∈ tblG := tbl1 773 (by decide +kernel) rfl
theorem ml_RX6_103 : Cond.methodLink RX6 103 yX6_seenOf ∈ tblG := tbl1 777 (by decide +kernel) rfl
theorem ml_RL_51 : Cond.methodLink RL 51 yX6_type ∈ tblG := tbl1 780 (by decide +kernel) rfl
theorem ml_RL_55 : Cond.methodLink RL 55 yX6_ring ∈ tblG := tbl1 786 (by decide +kernel) rfl
theorem ml_RX6_136 : Cond.methodLink RX6 136 yX6_takesRing ∈ tblG := tbl1 790 (by decide +kernel) rfl
theorem ml_RX6_123 : Cond.methodLink RX6 123 yX6_takesPlaces ∈ tblG := tbl1 794 (by decide +kernel) rfl
theorem ml_RX6_117 : Cond.methodLink RX6 117 yX6_peek ∈ tblG := tbl1 798 (by decide +kernel) rfl
theorem ml_RX6_127 : Cond.methodLink RX6 127 yX6_takes ∈ tblG := tbl1 802 (by decide +kernel) rfl
theorem ml_RX6_130 : Cond.methodLink RX6 130 yX6_takesFigure ∈ tblG := tbl1 806 (by decide +kernel) rfl
theorem ml_RX6_120 : Cond.methodLink RX6 120 yX6_kindOf ∈ tblG := tbl1 810 (by decide +kernel) rfl
theorem ml_RX6_133 : Cond.methodLink RX6 133 yX6_takesTune ∈ tblG := tbl1 813 (by decide +kernel) rfl
theorem ml_RX6_139 : Cond.methodLink RX6 139 yX6_bring ∈ tblG := tbl1 817 (by decide +kernel) rfl
theorem ml_RL_59 : Cond.methodLink RL 59 yX6_count ∈ tblG := tbl1 821 (by decide +kernel) rfl
theorem ml_RX6_143 : Cond.methodLink RX6 143 yX6_goneOnes ∈ tblG := tbl1 825 (by decide +kernel) rfl
theorem ml_RL_63 : Cond.methodLink RL 63 yX6_beats ∈ tblG := tbl1 829 (by decide +kernel) rfl
theorem ml_RX6_148 : Cond.methodLink RX6 148 yX6_minds ∈ tblG := tbl1 834 (by decide +kernel) rfl
theorem ml_RX6_151 : Cond.methodLink RX6 151 yX6_passes ∈ tblG := tbl1 838 (by decide +kernel) rfl
theorem ml_RL_67 : Cond.methodLink RL 67 yX6_draught ∈ tblG := tbl1 842 (by decide +kernel) rfl
theorem ml_RX6_154 : Cond.methodLink RX6 154 yX6_blows ∈ tblG := tbl1 846 (by decide +kernel) rfl
theorem ml_RL_71 : Cond.methodLink RL 71 yX6_leave ∈ tblG := tbl1 850 (by decide +kernel) rfl
theorem ml_RL_75 : Cond.methodLink RL 75 yX6_come ∈ tblG := tbl1 854 (by decide +kernel) rfl
theorem ml_RX6_158 : Cond.methodLink RX6 158 yX6_ones ∈ tblG := tbl1 858 (by decide +kernel) rfl
theorem ml_RL_79 : Cond.methodLink RL 79 yX6_drift ∈ tblG := tbl1 861 (by decide +kernel) rfl
theorem ml_RL_83 : Cond.methodLink RL 83 yX6_undo ∈ tblG := tbl1 869 (by decide +kernel) rfl
theorem ml_RL_87 : Cond.methodLink RL 87 yX6_seed ∈ tblG := tbl1 873 (by decide +kernel) rfl
theorem ml_RL_91 : Cond.methodLink RL 91 yX6_ahead ∈ tblG := tbl1 877 (by decide +kernel) rfl
theorem ml_RX6_176 : Cond.methodLink RX6 176 yX6_isTime ∈ tblG := tbl1 881 (by decide +kernel) rfl
theorem ml_RX6_179 : Cond.methodLink RX6 179 yX6_behind ∈ tblG := tbl1 885 (by decide +kernel) rfl
theorem ml_RX6_171 : Cond.methodLink RX6 171 yX6_ringOf ∈ tblG := tbl1 889 (by decide +kernel) rfl
theorem ml_RX6_168 : Cond.methodLink RX6 168 yX6_goesBy ∈ tblG := tbl1 893 (by decide +kernel) rfl
theorem ml_RL_96 : Cond.methodLink RL 96 yX6_then ∈ tblG := tbl1 897 (by decide +kernel) rfl
theorem ml_RL_100 : Cond.methodLink RL 100 yX6_back ∈ tblG := tbl1 901 (by decide +kernel) rfl
theorem ml_RL_104 : Cond.methodLink RL 104 yX6_been ∈ tblG := tbl1 905 (by decide +kernel) rfl
theorem ml_RL_108 : Cond.methodLink RL 108 yX6_shortest ∈ tblG := tbl1 909 (by decide +kernel) rfl
theorem ml_RX6_188 : Cond.methodLink RX6 188 yX6_laysLeft ∈ tblG := tbl1 914 (by decide +kernel) rfl
theorem ml_RX6_183 : Cond.methodLink RX6 183 yX6_ledBy ∈ tblG := tbl1 919 (by decide +kernel) rfl
theorem ml_RL_112 : Cond.methodLink RL 112 yX6_sorts ∈ tblG := tbl1 923 (by decide +kernel) rfl
theorem ml_RX6_191 : Cond.methodLink RX6 191 yX6_laysFar ∈ tblG := tbl1 927 (by decide +kernel) rfl
theorem ml_RL_116 : Cond.methodLink RL 116 yX6_apart ∈ tblG := tbl1 931 (by decide +kernel) rfl
theorem ml_RX6_194 : Cond.methodLink RX6 194 yX6_apartBy ∈ tblG := tbl1 935 (by decide +kernel) rfl
theorem ml_RL_121 : Cond.methodLink RL 121 yX6_chance ∈ tblG := tbl1 938 (by decide +kernel) rfl
theorem ml_RL_125 : Cond.methodLink RL 125 yX6_image ∈ tblG := tbl1 943 (by decide +kernel) rfl
theorem ml_RL_129 : Cond.methodLink RL 129 yX6_restore ∈ tblG := tbl1 947 (by decide +kernel) rfl
theorem ml_RL_134 : Cond.methodLink RL 134 yX6_counts ∈ tblG := tbl1 951 (by decide +kernel) rfl
theorem ml_RX6_208 : Cond.methodLink RX6 208 yX6_isLane ∈ tblG := tbl1 955 (by decide +kernel) rfl
theorem ml_RX6_205 : Cond.methodLink RX6 205 yX6_isSheet ∈ tblG := tbl1 958 (by decide +kernel) rfl
theorem ml_RX6_213 : Cond.methodLink RX6 213 yX6_against ∈ tblG := tbl1 963 (by decide +kernel) rfl
theorem ml_RL_139 : Cond.methodLink RL 139 yX6_steps ∈ tblG := tbl1 967 (by decide +kernel) rfl
theorem ml_RL_144 : Cond.methodLink RL 144 yX6_film ∈ tblG := tbl1 971 (by decide +kernel) rfl
theorem ml_RL_148 : Cond.methodLink RL 148 yX6_sheet ∈ tblG := tbl1 976 (by decide +kernel) rfl
theorem ml_RL_152 : Cond.methodLink RL 152 yX6_drop ∈ tblG := tbl1 980 (by decide +kernel) rfl
theorem ml_RL_159 : Cond.methodLink RL 159 yX6_item ∈ tblG := tbl1 984 (by decide +kernel) rfl
theorem ml_RX6_219 : Cond.methodLink RX6 219 yX6_lowest ∈ tblG := tbl1 988 (by decide +kernel) rfl
theorem ml_RL_163 : Cond.methodLink RL 163 yX6_copy ∈ tblG := tbl1 991 (by decide +kernel) rfl
theorem yv_X5_angel : zYv yX5_angel cX5_angel 2 (some .int) 1 5 := ⟨(tbl1 187 (by decide +kernel) rfl), tbl1 185 (by decide +kernel) rfl, tbl1 186 (by decide +kernel) rfl, in_RX5, ⟨by decide +kernel, by decide +kernel, by decide +kernel⟩, rfl⟩
theorem ys_X5_isPlace : zYs yX5_isPlace cX5_isPlace 1 (some .boolean) 1 := ⟨(tbl1 190 (by decide +kernel) rfl), tbl1 189 (by decide +kernel) rfl, in_RX5, by decide +kernel, by decide +kernel, by decide +kernel⟩
theorem ys_X5_within : zYs yX5_within cX5_within 3 (some .boolean) 3 := ⟨(tbl1 193 (by decide +kernel) rfl), tbl1 192 (by decide +kernel) rfl, in_RX5, by decide +kernel, by decide +kernel, by decide +kernel⟩
theorem yv_X1_standing : zYv yX1_standing cX1_standing 3 (some .int) 0 1 := ⟨(tbl1 197 (by decide +kernel) rfl), tbl1 195 (by decide +kernel) rfl, tbl1 196 (by decide +kernel) rfl, in_RX1, ⟨by decide +kernel, by decide +kernel, by decide +kernel⟩, rfl⟩
theorem ys_X5_bitOf : zYs yX5_bitOf cX5_bitOf 1 (some .int) 1 := ⟨(tbl1 200 (by decide +kernel) rfl), tbl1 199 (by decide +kernel) rfl, in_RX5, by decide +kernel, by decide +kernel, by decide +kernel⟩
theorem ys_X5_holds : zYs yX5_holds cX5_holds 2 (some .boolean) 2 := ⟨(tbl1 203 (by decide +kernel) rfl), tbl1 202 (by decide +kernel) rfl, in_RX5, by decide +kernel, by decide +kernel, by decide +kernel⟩
theorem ys_X5_leftBy8 : zYs yX5_leftBy8 cX5_leftBy8 1 (some .int) 1 := ⟨(tbl1 206 (by decide +kernel) rfl), tbl1 205 (by decide +kernel) rfl, in_RX5, by decide +kernel, by decide +kernel, by decide +kernel⟩
theorem yv_X0_forget : zYv yX0_forget cX0_forget 1 none 0 0 := ⟨(tbl1 210 (by decide +kernel) rfl), tbl1 208 (by decide +kernel) rfl, tbl1 209 (by decide +kernel) rfl, in_RX0, ⟨by decide +kernel, by decide +kernel, by decide +kernel⟩, rfl⟩
theorem yv_X1_addAngel : zYv yX1_addAngel cX1_addAngel 2 (some .int) 1 1 := ⟨(tbl1 214 (by decide +kernel) rfl), tbl1 212 (by decide +kernel) rfl, tbl1 213 (by decide +kernel) rfl, in_RX1, ⟨by decide +kernel, by decide +kernel, by decide +kernel⟩, rfl⟩
theorem yv_X5_figure : zYv yX5_figure cX5_figure 3 (some .int) 2 5 := ⟨(tbl1 218 (by decide +kernel) rfl), tbl1 216 (by decide +kernel) rfl, tbl1 217 (by decide +kernel) rfl, in_RX5, ⟨by decide +kernel, by decide +kernel, by decide +kernel⟩, rfl⟩
theorem yv_X1_addFigure : zYv yX1_addFigure cX1_addFigure 3 (some .int) 2 1 := ⟨(tbl1 222 (by decide +kernel) rfl), tbl1 220 (by decide +kernel) rfl, tbl1 221 (by decide +kernel) rfl, in_RX1, ⟨by decide +kernel, by decide +kernel, by decide +kernel⟩, rfl⟩
theorem yv_X1_tell : zYv yX1_tell cX1_tell 5 none 3 1 := ⟨(tbl1 226 (by decide +kernel) rfl), tbl1 224 (by decide +kernel) rfl, tbl1 225 (by decide +kernel) rfl, in_RX1, ⟨by decide +kernel, by decide +kernel, by decide +kernel⟩, rfl⟩
theorem ys_X5_lead : zYs yX5_lead cX5_lead 6 (some .int) 3 := ⟨(tbl1 229 (by decide +kernel) rfl), tbl1 228 (by decide +kernel) rfl, in_RX5, by decide +kernel, by decide +kernel, by decide +kernel⟩
theorem yv_X5_tune : zYv yX5_tune cX5_tune 2 (some .int) 1 5 := ⟨(tbl1 233 (by decide +kernel) rfl), tbl1 231 (by decide +kernel) rfl, tbl1 232 (by decide +kernel) rfl, in_RX5, ⟨by decide +kernel, by decide +kernel, by decide +kernel⟩, rfl⟩
theorem yv_X1_hasFigure : zYv yX1_hasFigure cX1_hasFigure 2 (some .boolean) 1 1 := ⟨(tbl1 237 (by decide +kernel) rfl), tbl1 235 (by decide +kernel) rfl, tbl1 236 (by decide +kernel) rfl, in_RX1, ⟨by decide +kernel, by decide +kernel, by decide +kernel⟩, rfl⟩
theorem yv_X1_addToTune : zYv yX1_addToTune cX1_addToTune 2 (some .int) 1 1 := ⟨(tbl1 241 (by decide +kernel) rfl), tbl1 239 (by decide +kernel) rfl, tbl1 240 (by decide +kernel) rfl, in_RX1, ⟨by decide +kernel, by decide +kernel, by decide +kernel⟩, rfl⟩
theorem yv_X5_hush : zYv yX5_hush cX5_hush 2 (some .int) 0 5 := ⟨(tbl1 245 (by decide +kernel) rfl), tbl1 243 (by decide +kernel) rfl, tbl1 244 (by decide +kernel) rfl, in_RX5, ⟨by decide +kernel, by decide +kernel, by decide +kernel⟩, rfl⟩
theorem yv_X5_of : zYv yX5_of cX5_of 3 (some .int) 2 5 := ⟨(tbl1 249 (by decide +kernel) rfl), tbl1 247 (by decide +kernel) rfl, tbl1 248 (by decide +kernel) rfl, in_RX5, ⟨by decide +kernel, by decide +kernel, by decide +kernel⟩, rfl⟩
theorem yv_X1_orderOf : zYv yX1_orderOf cX1_orderOf 6 (some .int) 1 1 := ⟨(tbl1 253 (by decide +kernel) rfl), tbl1 251 (by decide +kernel) rfl, tbl1 252 (by decide +kernel) rfl, in_RX1, ⟨by decide +kernel, by decide +kernel, by decide +kernel⟩, rfl⟩
theorem yv_X1_turnsTillBack : zYv yX1_turnsTillBack cX1_turnsTillBack 5 (some .int) 2 1 := ⟨(tbl1 257 (by decide +kernel) rfl), tbl1 255 (by decide +kernel) rfl, tbl1 256 (by decide +kernel) rfl, in_RX1, ⟨by decide +kernel, by decide +kernel, by decide +kernel⟩, rfl⟩
theorem yv_X1_ledBy : zYv yX1_ledBy cX1_ledBy 3 (some .int) 2 1 := ⟨(tbl1 261 (by decide +kernel) rfl), tbl1 259 (by decide +kernel) rfl, tbl1 260 (by decide +kernel) rfl, in_RX1, ⟨by decide +kernel, by decide +kernel, by decide +kernel⟩, rfl⟩
theorem ys_X5_greatestCommon : zYs yX5_greatestCommon cX5_greatestCommon 6 (some .int) 2 := ⟨(tbl1 264 (by decide +kernel) rfl), tbl1 263 (by decide +kernel) rfl, in_RX5, by decide +kernel, by decide +kernel, by decide +kernel⟩
theorem yv_X1_keptBy : zYv yX1_keptBy cX1_keptBy 4 (some .int) 1 1 := ⟨(tbl1 268 (by decide +kernel) rfl), tbl1 266 (by decide +kernel) rfl, tbl1 267 (by decide +kernel) rfl, in_RX1, ⟨by decide +kernel, by decide +kernel, by decide +kernel⟩, rfl⟩
theorem yv_X1_leastLike : zYv yX1_leastLike cX1_leastLike 3 (some .int) 1 1 := ⟨(tbl1 272 (by decide +kernel) rfl), tbl1 270 (by decide +kernel) rfl, tbl1 271 (by decide +kernel) rfl, in_RX1, ⟨by decide +kernel, by decide +kernel, by decide +kernel⟩, rfl⟩
theorem yv_X1_leadAlike : zYv yX1_leadAlike cX1_leadAlike 4 (some .boolean) 2 1 := ⟨(tbl1 276 (by decide +kernel) rfl), tbl1 274 (by decide +kernel) rfl, tbl1 275 (by decide +kernel) rfl, in_RX1, ⟨by decide +kernel, by decide +kernel, by decide +kernel⟩, rfl⟩
theorem yv_X5_leads : zYv yX5_leads cX5_leads 3 (some .int) 2 5 := ⟨(tbl1 280 (by decide +kernel) rfl), tbl1 278 (by decide +kernel) rfl, tbl1 279 (by decide +kernel) rfl, in_RX5, ⟨by decide +kernel, by decide +kernel, by decide +kernel⟩, rfl⟩
theorem yv_X5_at : zYv yX5_at cX5_at 2 (some .int) 1 5 := ⟨(tbl1 285 (by decide +kernel) rfl), tbl1 283 (by decide +kernel) rfl, tbl1 284 (by decide +kernel) rfl, in_RX5, ⟨by decide +kernel, by decide +kernel, by decide +kernel⟩, rfl⟩
theorem yv_X1_hasAngel : zYv yX1_hasAngel cX1_hasAngel 2 (some .boolean) 1 1 := ⟨(tbl1 289 (by decide +kernel) rfl), tbl1 287 (by decide +kernel) rfl, tbl1 288 (by decide +kernel) rfl, in_RX1, ⟨by decide +kernel, by decide +kernel, by decide +kernel⟩, rfl⟩
theorem yv_X5_seen : zYv yX5_seen cX5_seen 2 (some .int) 1 5 := ⟨(tbl1 293 (by decide +kernel) rfl), tbl1 291 (by decide +kernel) rfl, tbl1 292 (by decide +kernel) rfl, in_RX5, ⟨by decide +kernel, by decide +kernel, by decide +kernel⟩, rfl⟩
theorem ys_X5_seenFrom : zYs yX5_seenFrom cX5_seenFrom 7 (some .int) 2 := ⟨(tbl1 296 (by decide +kernel) rfl), tbl1 295 (by decide +kernel) rfl, in_RX5, by decide +kernel, by decide +kernel, by decide +kernel⟩
theorem ys_J6_bitCount_0f7a4 : zYs yJ6_bitCount_0f7a4 cJ6_bitCount_0f7a4 1 (some .int) 1 := ⟨(tbl1 299 (by decide +kernel) rfl), tbl1 298 (by decide +kernel) rfl, in_RJ6, by decide +kernel, by decide +kernel, by decide +kernel⟩
theorem yv_X5_type : zYv yX5_type cX5_type 2 (some .int) 1 5 := ⟨(tbl1 306 (by decide +kernel) rfl), tbl1 304 (by decide +kernel) rfl, tbl1 305 (by decide +kernel) rfl, in_RX5, ⟨by decide +kernel, by decide +kernel, by decide +kernel⟩, rfl⟩
theorem yv_X4_isFull : zYv yX4_isFull cX4_isFull 1 (some .boolean) 0 4 := ⟨(tbl1 310 (by decide +kernel) rfl), tbl1 308 (by decide +kernel) rfl, tbl1 309 (by decide +kernel) rfl, in_RX4, ⟨by decide +kernel, by decide +kernel, by decide +kernel⟩, rfl⟩
theorem yv_X4_put : zYv yX4_put cX4_put 2 (some .int) 1 4 := ⟨(tbl1 314 (by decide +kernel) rfl), tbl1 312 (by decide +kernel) rfl, tbl1 313 (by decide +kernel) rfl, in_RX4, ⟨by decide +kernel, by decide +kernel, by decide +kernel⟩, rfl⟩
theorem yv_X5_ring : zYv yX5_ring cX5_ring 3 (some .int) 0 5 := ⟨(tbl1 318 (by decide +kernel) rfl), tbl1 316 (by decide +kernel) rfl, tbl1 317 (by decide +kernel) rfl, in_RX5, ⟨by decide +kernel, by decide +kernel, by decide +kernel⟩, rfl⟩
theorem yv_X4_readInto : zYv yX4_readInto cX4_readInto 2 (some .boolean) 1 4 := ⟨(tbl1 322 (by decide +kernel) rfl), tbl1 320 (by decide +kernel) rfl, tbl1 321 (by decide +kernel) rfl, in_RX4, ⟨by decide +kernel, by decide +kernel, by decide +kernel⟩, rfl⟩
theorem yv_X1_clear : zYv yX1_clear cX1_clear 1 none 0 1 := ⟨(tbl1 326 (by decide +kernel) rfl), tbl1 324 (by decide +kernel) rfl, tbl1 325 (by decide +kernel) rfl, in_RX1, ⟨by decide +kernel, by decide +kernel, by decide +kernel⟩, rfl⟩
theorem yv_X4_readPlaces : zYv yX4_readPlaces cX4_readPlaces 3 (some .boolean) 1 4 := ⟨(tbl1 331 (by decide +kernel) rfl), tbl1 330 (by decide +kernel) rfl, tbl_mem (List.mem_append_left _ (by decide +kernel)) rfl, in_RX4, ⟨by decide +kernel, by decide +kernel, by decide +kernel⟩, rfl⟩
theorem yv_X4_takes : zYv yX4_takes cX4_takes 2 (some .boolean) 1 4 := ⟨(tbl1 335 (by decide +kernel) rfl), tbl1 334 (by decide +kernel) rfl, tbl_mem (List.mem_append_left _ (by decide +kernel)) rfl, in_RX4, ⟨by decide +kernel, by decide +kernel, by decide +kernel⟩, rfl⟩
theorem yv_X4_next : zYv yX4_next cX4_next 1 (some .int) 0 4 := ⟨(tbl1 339 (by decide +kernel) rfl), tbl1 338 (by decide +kernel) rfl, tbl_mem (List.mem_append_left _ (by decide +kernel)) rfl, in_RX4, ⟨by decide +kernel, by decide +kernel, by decide +kernel⟩, rfl⟩
theorem yv_X4_readFigures : zYv yX4_readFigures cX4_readFigures 3 (some .boolean) 1 4 := ⟨(tbl1 344 (by decide +kernel) rfl), tbl1 343 (by decide +kernel) rfl, tbl_mem (List.mem_append_left _ (by decide +kernel)) rfl, in_RX4, ⟨by decide +kernel, by decide +kernel, by decide +kernel⟩, rfl⟩
theorem yv_X4_readFigure : zYv yX4_readFigure cX4_readFigure 4 (some .boolean) 1 4 := ⟨(tbl1 348 (by decide +kernel) rfl), tbl1 347 (by decide +kernel) rfl, tbl_mem (List.mem_append_left _ (by decide +kernel)) rfl, in_RX4, ⟨by decide +kernel, by decide +kernel, by decide +kernel⟩, rfl⟩
theorem ys_X4_kindOf : zYs yX4_kindOf cX4_kindOf 1 (some .int) 1 := ⟨(tbl1 351 (by decide +kernel) rfl), tbl1 350 (by decide +kernel) rfl, in_RX4, by decide +kernel, by decide +kernel, by decide +kernel⟩
theorem yv_X4_takeDigit : zYv yX4_takeDigit cX4_takeDigit 3 (some .int) 1 4 := ⟨(tbl1 355 (by decide +kernel) rfl), tbl1 354 (by decide +kernel) rfl, tbl_mem (List.mem_append_left _ (by decide +kernel)) rfl, in_RX4, ⟨by decide +kernel, by decide +kernel, by decide +kernel⟩, rfl⟩
theorem yv_X4_readTune : zYv yX4_readTune cX4_readTune 4 (some .boolean) 1 4 := ⟨(tbl1 360 (by decide +kernel) rfl), tbl1 359 (by decide +kernel) rfl, tbl_mem (List.mem_append_left _ (by decide +kernel)) rfl, in_RX4, ⟨by decide +kernel, by decide +kernel, by decide +kernel⟩, rfl⟩
theorem yv_X4_wipe : zYv yX4_wipe cX4_wipe 1 none 0 4 := ⟨(tbl1 365 (by decide +kernel) rfl), tbl1 363 (by decide +kernel) rfl, tbl1 364 (by decide +kernel) rfl, in_RX4, ⟨by decide +kernel, by decide +kernel, by decide +kernel⟩, rfl⟩
theorem yv_X1_becomeLike : zYv yX1_becomeLike cX1_becomeLike 2 none 1 1 := ⟨(tbl1 369 (by decide +kernel) rfl), tbl1 367 (by decide +kernel) rfl, tbl1 368 (by decide +kernel) rfl, in_RX1, ⟨by decide +kernel, by decide +kernel, by decide +kernel⟩, rfl⟩
theorem yv_X0_becomeLike : zYv yX0_becomeLike cX0_becomeLike 2 none 1 0 := ⟨(tbl1 376 (by decide +kernel) rfl), tbl1 374 (by decide +kernel) rfl, tbl1 375 (by decide +kernel) rfl, in_RX0, ⟨by decide +kernel, by decide +kernel, by decide +kernel⟩, rfl⟩
theorem yv_X5_count : zYv yX5_count cX5_count 2 (some .int) 1 5 := ⟨(tbl1 381 (by decide +kernel) rfl), tbl1 379 (by decide +kernel) rfl, tbl1 380 (by decide +kernel) rfl, in_RX5, ⟨by decide +kernel, by decide +kernel, by decide +kernel⟩, rfl⟩
theorem yv_X1_goneOnes : zYv yX1_goneOnes cX1_goneOnes 3 (some .int) 0 1 := ⟨(tbl1 385 (by decide +kernel) rfl), tbl1 383 (by decide +kernel) rfl, tbl1 384 (by decide +kernel) rfl, in_RX1, ⟨by decide +kernel, by decide +kernel, by decide +kernel⟩, rfl⟩
theorem yv_X1_figureOfBeat : zYv yX1_figureOfBeat cX1_figureOfBeat 2 (some .int) 1 1 := ⟨(tbl1 389 (by decide +kernel) rfl), tbl1 387 (by decide +kernel) rfl, tbl1 388 (by decide +kernel) rfl, in_RX1, ⟨by decide +kernel, by decide +kernel, by decide +kernel⟩, rfl⟩
theorem yv_X5_beats : zYv yX5_beats cX5_beats 4 (some .int) 1 5 := ⟨(tbl1 393 (by decide +kernel) rfl), tbl1 391 (by decide +kernel) rfl, tbl1 392 (by decide +kernel) rfl, in_RX5, ⟨by decide +kernel, by decide +kernel, by decide +kernel⟩, rfl⟩
theorem yv_X5_refusedBeats : zYv yX5_refusedBeats cX5_refusedBeats 2 (some .int) 1 5 := ⟨(tbl1 397 (by decide +kernel) rfl), tbl1 396 (by decide +kernel) rfl, tbl_mem (List.mem_append_left _ (by decide +kernel)) rfl, in_RX5, ⟨by decide +kernel, by decide +kernel, by decide +kernel⟩, rfl⟩
theorem yv_X0_note : zYv yX0_note cX0_note 2 none 1 0 := ⟨(tbl1 401 (by decide +kernel) rfl), tbl1 399 (by decide +kernel) rfl, tbl1 400 (by decide +kernel) rfl, in_RX0, ⟨by decide +kernel, by decide +kernel, by decide +kernel⟩, rfl⟩
theorem ys_J9_min_7cf53 : zYs yJ9_min_7cf53 cJ9_min_7cf53 2 (some .int) 2 := ⟨(tbl1 404 (by decide +kernel) rfl), tbl1 403 (by decide +kernel) rfl, in_RJ9, by decide +kernel, by decide +kernel, by decide +kernel⟩
theorem yv_X1_dance : zYv yX1_dance cX1_dance 2 none 0 1 := ⟨(tbl1 408 (by decide +kernel) rfl), tbl1 406 (by decide +kernel) rfl, tbl1 407 (by decide +kernel) rfl, in_RX1, ⟨by decide +kernel, by decide +kernel, by decide +kernel⟩, rfl⟩
theorem yv_X1_goesOn : zYv yX1_goesOn cX1_goesOn 3 (some .int) 2 1 := ⟨(tbl1 412 (by decide +kernel) rfl), tbl1 410 (by decide +kernel) rfl, tbl1 411 (by decide +kernel) rfl, in_RX1, ⟨by decide +kernel, by decide +kernel, by decide +kernel⟩, rfl⟩
theorem yv_X5_draught : zYv yX5_draught cX5_draught 2 (some .int) 1 5 := ⟨(tbl1 416 (by decide +kernel) rfl), tbl1 414 (by decide +kernel) rfl, tbl1 415 (by decide +kernel) rfl, in_RX5, ⟨by decide +kernel, by decide +kernel, by decide +kernel⟩, rfl⟩
theorem yv_X1_blow : zYv yX1_blow cX1_blow 3 none 1 1 := ⟨(tbl1 420 (by decide +kernel) rfl), tbl1 418 (by decide +kernel) rfl, tbl1 419 (by decide +kernel) rfl, in_RX1, ⟨by decide +kernel, by decide +kernel, by decide +kernel⟩, rfl⟩
theorem yv_X5_leave : zYv yX5_leave cX5_leave 3 (some .int) 1 5 := ⟨(tbl1 425 (by decide +kernel) rfl), tbl1 423 (by decide +kernel) rfl, tbl1 424 (by decide +kernel) rfl, in_RX5, ⟨by decide +kernel, by decide +kernel, by decide +kernel⟩, rfl⟩
theorem yv_X5_come : zYv yX5_come cX5_come 3 (some .int) 2 5 := ⟨(tbl1 429 (by decide +kernel) rfl), tbl1 427 (by decide +kernel) rfl, tbl1 428 (by decide +kernel) rfl, in_RX5, ⟨by decide +kernel, by decide +kernel, by decide +kernel⟩, rfl⟩
theorem yv_X5_drift : zYv yX5_drift cX5_drift 4 (some .int) 1 5 := ⟨(tbl1 433 (by decide +kernel) rfl), tbl1 431 (by decide +kernel) rfl, tbl1 432 (by decide +kernel) rfl, in_RX5, ⟨by decide +kernel, by decide +kernel, by decide +kernel⟩, rfl⟩
theorem yv_X1_drawAndBlow : zYv yX1_drawAndBlow cX1_drawAndBlow 1 none 0 1 := ⟨(tbl1 437 (by decide +kernel) rfl), tbl1 435 (by decide +kernel) rfl, tbl1 436 (by decide +kernel) rfl, in_RX1, ⟨by decide +kernel, by decide +kernel, by decide +kernel⟩, rfl⟩
theorem yv_X5_undo : zYv yX5_undo cX5_undo 1 (some .int) 0 5 := ⟨(tbl1 446 (by decide +kernel) rfl), tbl1 444 (by decide +kernel) rfl, tbl1 445 (by decide +kernel) rfl, in_RX5, ⟨by decide +kernel, by decide +kernel, by decide +kernel⟩, rfl⟩
theorem yv_X0_bringBack : zYv yX0_bringBack cX0_bringBack 2 none 1 0 := ⟨(tbl1 450 (by decide +kernel) rfl), tbl1 448 (by decide +kernel) rfl, tbl1 449 (by decide +kernel) rfl, in_RX0, ⟨by decide +kernel, by decide +kernel, by decide +kernel⟩, rfl⟩
theorem yv_X5_seed : zYv yX5_seed cX5_seed 3 (some .int) 1 5 := ⟨(tbl1 454 (by decide +kernel) rfl), tbl1 452 (by decide +kernel) rfl, tbl1 453 (by decide +kernel) rfl, in_RX5, ⟨by decide +kernel, by decide +kernel, by decide +kernel⟩, rfl⟩
theorem yv_X5_ahead : zYv yX5_ahead cX5_ahead 3 (some .int) 2 5 := ⟨(tbl1 458 (by decide +kernel) rfl), tbl1 456 (by decide +kernel) rfl, tbl1 457 (by decide +kernel) rfl, in_RX5, ⟨by decide +kernel, by decide +kernel, by decide +kernel⟩, rfl⟩
theorem yv_X1_placeBehind : zYv yX1_placeBehind cX1_placeBehind 7 (some .int) 2 1 := ⟨(tbl1 463 (by decide +kernel) rfl), tbl1 461 (by decide +kernel) rfl, tbl1 462 (by decide +kernel) rfl, in_RX1, ⟨by decide +kernel, by decide +kernel, by decide +kernel⟩, rfl⟩
theorem yv_X1_roundsTillBack : zYv yX1_roundsTillBack cX1_roundsTillBack 4 (some .int) 1 1 := ⟨(tbl1 467 (by decide +kernel) rfl), tbl1 465 (by decide +kernel) rfl, tbl1 466 (by decide +kernel) rfl, in_RX1, ⟨by decide +kernel, by decide +kernel, by decide +kernel⟩, rfl⟩
theorem yv_X1_walk : zYv yX1_walk cX1_walk 5 (some .int) 2 1 := ⟨(tbl1 471 (by decide +kernel) rfl), tbl1 469 (by decide +kernel) rfl, tbl1 470 (by decide +kernel) rfl, in_RX1, ⟨by decide +kernel, by decide +kernel, by decide +kernel⟩, rfl⟩
theorem yv_X5_then : zYv yX5_then cX5_then 8 (some .int) 3 5 := ⟨(tbl1 475 (by decide +kernel) rfl), tbl1 473 (by decide +kernel) rfl, tbl1 474 (by decide +kernel) rfl, in_RX5, ⟨by decide +kernel, by decide +kernel, by decide +kernel⟩, rfl⟩
theorem yv_X5_back : zYv yX5_back cX5_back 2 (some .int) 1 5 := ⟨(tbl1 480 (by decide +kernel) rfl), tbl1 478 (by decide +kernel) rfl, tbl1 479 (by decide +kernel) rfl, in_RX5, ⟨by decide +kernel, by decide +kernel, by decide +kernel⟩, rfl⟩
theorem yv_X5_roundsTillAllBack : zYv yX5_roundsTillAllBack cX5_roundsTillAllBack 5 (some .int) 0 5 := ⟨(tbl1 484 (by decide +kernel) rfl), tbl1 483 (by decide +kernel) rfl, tbl_mem (List.mem_append_left _ (by decide +kernel)) rfl, in_RX5, ⟨by decide +kernel, by decide +kernel, by decide +kernel⟩, rfl⟩
theorem yv_X5_been : zYv yX5_been cX5_been 5 (some .int) 1 5 := ⟨(tbl1 490 (by decide +kernel) rfl), tbl1 488 (by decide +kernel) rfl, tbl1 489 (by decide +kernel) rfl, in_RX5, ⟨by decide +kernel, by decide +kernel, by decide +kernel⟩, rfl⟩
theorem yv_X5_shortest : zYv yX5_shortest cX5_shortest 3 (some .int) 2 5 := ⟨(tbl1 495 (by decide +kernel) rfl), tbl1 493 (by decide +kernel) rfl, tbl1 494 (by decide +kernel) rfl, in_RX5, ⟨by decide +kernel, by decide +kernel, by decide +kernel⟩, rfl⟩
theorem yv_X2_explore : zYv yX2_explore cX2_explore 5 none 2 2 := ⟨(tbl1 499 (by decide +kernel) rfl), tbl1 497 (by decide +kernel) rfl, tbl1 498 (by decide +kernel) rfl, in_RX2, ⟨by decide +kernel, by decide +kernel, by decide +kernel⟩, rfl⟩
theorem yv_X1_setLedBy : zYv yX1_setLedBy cX1_setLedBy 5 (some .int) 2 1 := ⟨(tbl1 503 (by decide +kernel) rfl), tbl1 501 (by decide +kernel) rfl, tbl1 502 (by decide +kernel) rfl, in_RX1, ⟨by decide +kernel, by decide +kernel, by decide +kernel⟩, rfl⟩
theorem yv_X2_comeTo : zYv yX2_comeTo cX2_comeTo 4 none 3 2 := ⟨(tbl1 508 (by decide +kernel) rfl), tbl1 507 (by decide +kernel) rfl, tbl_mem (List.mem_append_left _ (by decide +kernel)) rfl, in_RX2, ⟨by decide +kernel, by decide +kernel, by decide +kernel⟩, rfl⟩
theorem yv_X2_howFar : zYv yX2_howFar cX2_howFar 2 (some .int) 1 2 := ⟨(tbl1 512 (by decide +kernel) rfl), tbl1 510 (by decide +kernel) rfl, tbl1 511 (by decide +kernel) rfl, in_RX2, ⟨by decide +kernel, by decide +kernel, by decide +kernel⟩, rfl⟩
theorem yv_X2_figureOnWay : zYv yX2_figureOnWay cX2_figureOnWay 5 (some .int) 2 2 := ⟨(tbl1 516 (by decide +kernel) rfl), tbl1 514 (by decide +kernel) rfl, tbl1 515 (by decide +kernel) rfl, in_RX2, ⟨by decide +kernel, by decide +kernel, by decide +kernel⟩, rfl⟩
theorem yv_X5_sorts : zYv yX5_sorts cX5_sorts 1 (some .int) 0 5 := ⟨(tbl1 520 (by decide +kernel) rfl), tbl1 518 (by decide +kernel) rfl, tbl1 519 (by decide +kernel) rfl, in_RX5, ⟨by decide +kernel, by decide +kernel, by decide +kernel⟩, rfl⟩
theorem yv_X5_apart : zYv yX5_apart cX5_apart 5 (some .int) 3 5 := ⟨(tbl1 524 (by decide +kernel) rfl), tbl1 522 (by decide +kernel) rfl, tbl1 523 (by decide +kernel) rfl, in_RX5, ⟨by decide +kernel, by decide +kernel, by decide +kernel⟩, rfl⟩
theorem yv_X2_widestPair : zYv yX2_widestPair cX2_widestPair 3 (some .int) 0 2 := ⟨(tbl1 528 (by decide +kernel) rfl), tbl1 526 (by decide +kernel) rfl, tbl1 527 (by decide +kernel) rfl, in_RX2, ⟨by decide +kernel, by decide +kernel, by decide +kernel⟩, rfl⟩
theorem ys_X5_span : zYs yX5_span cX5_span 3 (some .int) 1 := ⟨(tbl1 531 (by decide +kernel) rfl), tbl1 530 (by decide +kernel) rfl, in_RX5, by decide +kernel, by decide +kernel, by decide +kernel⟩
theorem yv_X5_chance : zYv yX5_chance cX5_chance 7 (some .int) 4 5 := ⟨(tbl1 536 (by decide +kernel) rfl), tbl1 534 (by decide +kernel) rfl, tbl1 535 (by decide +kernel) rfl, in_RX5, ⟨by decide +kernel, by decide +kernel, by decide +kernel⟩, rfl⟩
theorem yv_X5_countWays : zYv yX5_countWays cX5_countWays 4 none 2 5 := ⟨(tbl1 540 (by decide +kernel) rfl), tbl1 539 (by decide +kernel) rfl, tbl_mem (List.mem_append_left _ (by decide +kernel)) rfl, in_RX5, ⟨by decide +kernel, by decide +kernel, by decide +kernel⟩, rfl⟩
theorem yv_X5_countWaysOn : zYv yX5_countWaysOn cX5_countWaysOn 3 none 0 5 := ⟨(tbl1 544 (by decide +kernel) rfl), tbl1 543 (by decide +kernel) rfl, tbl_mem (List.mem_append_left _ (by decide +kernel)) rfl, in_RX5, ⟨by decide +kernel, by decide +kernel, by decide +kernel⟩, rfl⟩
theorem yv_X5_image : zYv yX5_image cX5_image 1 (some .int) 0 5 := ⟨(tbl1 548 (by decide +kernel) rfl), tbl1 546 (by decide +kernel) rfl, tbl1 547 (by decide +kernel) rfl, in_RX5, ⟨by decide +kernel, by decide +kernel, by decide +kernel⟩, rfl⟩
theorem yv_X5_restore : zYv yX5_restore cX5_restore 1 (some .int) 0 5 := ⟨(tbl1 552 (by decide +kernel) rfl), tbl1 550 (by decide +kernel) rfl, tbl1 551 (by decide +kernel) rfl, in_RX5, ⟨by decide +kernel, by decide +kernel, by decide +kernel⟩, rfl⟩
theorem yv_X5_counts : zYv yX5_counts cX5_counts 13 (some .int) 6 5 := ⟨(tbl1 556 (by decide +kernel) rfl), tbl1 554 (by decide +kernel) rfl, tbl1 555 (by decide +kernel) rfl, in_RX5, ⟨by decide +kernel, by decide +kernel, by decide +kernel⟩, rfl⟩
theorem ys_X5_isSheet : zYs yX5_isSheet cX5_isSheet 1 (some .boolean) 1 := ⟨(tbl1 559 (by decide +kernel) rfl), tbl1 558 (by decide +kernel) rfl, in_RX5, by decide +kernel, by decide +kernel, by decide +kernel⟩
theorem ys_X5_isLane : zYs yX5_isLane cX5_isLane 1 (some .boolean) 1 := ⟨(tbl1 562 (by decide +kernel) rfl), tbl1 561 (by decide +kernel) rfl, in_RX5, by decide +kernel, by decide +kernel, by decide +kernel⟩
theorem yv_X3_refused : zYv yX3_refused cX3_refused 5 (some .int) 4 3 := ⟨(tbl1 566 (by decide +kernel) rfl), tbl1 564 (by decide +kernel) rfl, tbl1 565 (by decide +kernel) rfl, in_RX3, ⟨by decide +kernel, by decide +kernel, by decide +kernel⟩, rfl⟩
theorem yv_X3_isThere : zYv yX3_isThere cX3_isThere 2 (some .boolean) 1 3 := ⟨(tbl1 570 (by decide +kernel) rfl), tbl1 568 (by decide +kernel) rfl, tbl1 569 (by decide +kernel) rfl, in_RX3, ⟨by decide +kernel, by decide +kernel, by decide +kernel⟩, rfl⟩
theorem yv_X3_hasItems : zYv yX3_hasItems cX3_hasItems 4 (some .boolean) 3 3 := ⟨(tbl1 574 (by decide +kernel) rfl), tbl1 572 (by decide +kernel) rfl, tbl1 573 (by decide +kernel) rfl, in_RX3, ⟨by decide +kernel, by decide +kernel, by decide +kernel⟩, rfl⟩
theorem yv_X5_isSeenAsTold : zYv yX5_isSeenAsTold cX5_isSeenAsTold 7 (some .boolean) 5 5 := ⟨(tbl1 578 (by decide +kernel) rfl), tbl1 577 (by decide +kernel) rfl, tbl_mem (List.mem_append_left _ (by decide +kernel)) rfl, in_RX5, ⟨by decide +kernel, by decide +kernel, by decide +kernel⟩, rfl⟩
theorem yv_X3_itemOf : zYv yX3_itemOf cX3_itemOf 3 (some .long) 2 3 := ⟨(tbl1 582 (by decide +kernel) rfl), tbl1 580 (by decide +kernel) rfl, tbl1 581 (by decide +kernel) rfl, in_RX3, ⟨by decide +kernel, by decide +kernel, by decide +kernel⟩, rfl⟩
theorem ys_J9_max_7cf53 : zYs yJ9_max_7cf53 cJ9_max_7cf53 2 (some .int) 2 := ⟨(tbl1 586 (by decide +kernel) rfl), tbl1 585 (by decide +kernel) rfl, in_RJ9, by decide +kernel, by decide +kernel, by decide +kernel⟩
theorem yv_X5_steps : zYv yX5_steps cX5_steps 12 (some .int) 7 5 := ⟨(tbl1 590 (by decide +kernel) rfl), tbl1 588 (by decide +kernel) rfl, tbl1 589 (by decide +kernel) rfl, in_RX5, ⟨by decide +kernel, by decide +kernel, by decide +kernel⟩, rfl⟩
theorem yv_X5_goesAsTold : zYv yX5_goesAsTold cX5_goesAsTold 8 (some .boolean) 5 5 := ⟨(tbl1 595 (by decide +kernel) rfl), tbl1 594 (by decide +kernel) rfl, tbl_mem (List.mem_append_left _ (by decide +kernel)) rfl, in_RX5, ⟨by decide +kernel, by decide +kernel, by decide +kernel⟩, rfl⟩
theorem yv_X5_film : zYv yX5_film cX5_film 9 (some .int) 5 5 := ⟨(tbl1 599 (by decide +kernel) rfl), tbl1 597 (by decide +kernel) rfl, tbl1 598 (by decide +kernel) rfl, in_RX5, ⟨by decide +kernel, by decide +kernel, by decide +kernel⟩, rfl⟩
theorem yv_X3_put : zYv yX3_put cX3_put 5 none 3 3 := ⟨(tbl1 603 (by decide +kernel) rfl), tbl1 601 (by decide +kernel) rfl, tbl1 602 (by decide +kernel) rfl, in_RX3, ⟨by decide +kernel, by decide +kernel, by decide +kernel⟩, rfl⟩
theorem ys_X3_lowestBits : zYs yX3_lowestBits cX3_lowestBits 3 (some .long) 2 := ⟨(tbl1 606 (by decide +kernel) rfl), tbl1 605 (by decide +kernel) rfl, in_RX3, by decide +kernel, by decide +kernel, by decide +kernel⟩
theorem yv_X5_sheet : zYv yX5_sheet cX5_sheet 4 (some .int) 3 5 := ⟨(tbl1 610 (by decide +kernel) rfl), tbl1 608 (by decide +kernel) rfl, tbl1 609 (by decide +kernel) rfl, in_RX5, ⟨by decide +kernel, by decide +kernel, by decide +kernel⟩, rfl⟩
theorem yv_X3_renew : zYv yX3_renew cX3_renew 5 none 3 3 := ⟨(tbl1 614 (by decide +kernel) rfl), tbl1 612 (by decide +kernel) rfl, tbl1 613 (by decide +kernel) rfl, in_RX3, ⟨by decide +kernel, by decide +kernel, by decide +kernel⟩, rfl⟩
theorem yv_X5_drop : zYv yX5_drop cX5_drop 2 (some .int) 1 5 := ⟨(tbl1 618 (by decide +kernel) rfl), tbl1 616 (by decide +kernel) rfl, tbl1 617 (by decide +kernel) rfl, in_RX5, ⟨by decide +kernel, by decide +kernel, by decide +kernel⟩, rfl⟩
theorem yv_X3_takeAway : zYv yX3_takeAway cX3_takeAway 2 (some .int) 1 3 := ⟨(tbl1 623 (by decide +kernel) rfl), tbl1 621 (by decide +kernel) rfl, tbl1 622 (by decide +kernel) rfl, in_RX3, ⟨by decide +kernel, by decide +kernel, by decide +kernel⟩, rfl⟩
theorem yv_X5_item : zYv yX5_item cX5_item 7 (some .int) 4 5 := ⟨(tbl1 627 (by decide +kernel) rfl), tbl1 625 (by decide +kernel) rfl, tbl1 626 (by decide +kernel) rfl, in_RX5, ⟨by decide +kernel, by decide +kernel, by decide +kernel⟩, rfl⟩
theorem yv_X5_copy : zYv yX5_copy cX5_copy 6 (some .int) 5 5 := ⟨(tbl1 631 (by decide +kernel) rfl), tbl1 629 (by decide +kernel) rfl, tbl1 630 (by decide +kernel) rfl, in_RX5, ⟨by decide +kernel, by decide +kernel, by decide +kernel⟩, rfl⟩
theorem yv_X3_carry : zYv yX3_carry cX3_carry 6 none 5 3 := ⟨(tbl1 636 (by decide +kernel) rfl), tbl1 634 (by decide +kernel) rfl, tbl1 635 (by decide +kernel) rfl, in_RX3, ⟨by decide +kernel, by decide +kernel, by decide +kernel⟩, rfl⟩
theorem yv_X6_angel : zYv yX6_angel cX6_angel 2 (some .int) 1 6 := ⟨(tbl1 696 (by decide +kernel) rfl), tbl1 694 (by decide +kernel) rfl, tbl1 695 (by decide +kernel) rfl, in_RX6, ⟨by decide +kernel, by decide +kernel, by decide +kernel⟩, rfl⟩
theorem ys_X6_isPlace : zYs yX6_isPlace cX6_isPlace 1 (some .boolean) 1 := ⟨(tbl1 699 (by decide +kernel) rfl), tbl1 698 (by decide +kernel) rfl, in_RX6, by decide +kernel, by decide +kernel, by decide +kernel⟩
theorem ys_X6_in : zYs yX6_in cX6_in 6 (some .boolean) 3 := ⟨(tbl1 703 (by decide +kernel) rfl), tbl1 702 (by decide +kernel) rfl, in_RX6, by decide +kernel, by decide +kernel, by decide +kernel⟩
theorem yv_X6_taken : zYv yX6_taken cX6_taken 3 (some .int) 0 6 := ⟨(tbl1 707 (by decide +kernel) rfl), tbl1 706 (by decide +kernel) rfl, tbl_mem (List.mem_append_left _ (by decide +kernel)) rfl, in_RX6, ⟨by decide +kernel, by decide +kernel, by decide +kernel⟩, rfl⟩
theorem ys_X6_has : zYs yX6_has cX6_has 2 (some .boolean) 2 := ⟨(tbl1 710 (by decide +kernel) rfl), tbl1 709 (by decide +kernel) rfl, in_RX6, by decide +kernel, by decide +kernel, by decide +kernel⟩
theorem yv_X6_figure : zYv yX6_figure cX6_figure 3 (some .int) 2 6 := ⟨(tbl1 714 (by decide +kernel) rfl), tbl1 712 (by decide +kernel) rfl, tbl1 713 (by decide +kernel) rfl, in_RX6, ⟨by decide +kernel, by decide +kernel, by decide +kernel⟩, rfl⟩
theorem yv_X6_tune : zYv yX6_tune cX6_tune 2 (some .int) 1 6 := ⟨(tbl1 719 (by decide +kernel) rfl), tbl1 717 (by decide +kernel) rfl, tbl1 718 (by decide +kernel) rfl, in_RX6, ⟨by decide +kernel, by decide +kernel, by decide +kernel⟩, rfl⟩
theorem yv_X6_isFigure : zYv yX6_isFigure cX6_isFigure 2 (some .boolean) 1 6 := ⟨(tbl1 723 (by decide +kernel) rfl), tbl1 722 (by decide +kernel) rfl, tbl_mem (List.mem_append_left _ (by decide +kernel)) rfl, in_RX6, ⟨by decide +kernel, by decide +kernel, by decide +kernel⟩, rfl⟩
theorem yv_X6_hush : zYv yX6_hush cX6_hush 2 (some .int) 0 6 := ⟨(tbl1 727 (by decide +kernel) rfl), tbl1 725 (by decide +kernel) rfl, tbl1 726 (by decide +kernel) rfl, in_RX6, ⟨by decide +kernel, by decide +kernel, by decide +kernel⟩, rfl⟩
theorem yv_X6_of : zYv yX6_of cX6_of 3 (some .int) 2 6 := ⟨(tbl1 731 (by decide +kernel) rfl), tbl1 729 (by decide +kernel) rfl, tbl1 730 (by decide +kernel) rfl, in_RX6, ⟨by decide +kernel, by decide +kernel, by decide +kernel⟩, rfl⟩
theorem yv_X6_orderOf : zYv yX6_orderOf cX6_orderOf 5 (some .int) 1 6 := ⟨(tbl1 735 (by decide +kernel) rfl), tbl1 734 (by decide +kernel) rfl, tbl_mem (List.mem_append_left _ (by decide +kernel)) rfl, in_RX6, ⟨by decide +kernel, by decide +kernel, by decide +kernel⟩, rfl⟩
theorem yv_X6_leadsOf : zYv yX6_leadsOf cX6_leadsOf 3 (some .int) 2 6 := ⟨(tbl1 739 (by decide +kernel) rfl), tbl1 738 (by decide +kernel) rfl, tbl_mem (List.mem_append_left _ (by decide +kernel)) rfl, in_RX6, ⟨by decide +kernel, by decide +kernel, by decide +kernel⟩, rfl⟩
theorem ys_X6_leadsBy : zYs yX6_leadsBy cX6_leadsBy 3 (some .int) 3 := ⟨(tbl1 742 (by decide +kernel) rfl), tbl1 741 (by decide +kernel) rfl, in_RX6, by decide +kernel, by decide +kernel, by decide +kernel⟩
theorem ys_X6_round : zYs yX6_round cX6_round 2 (some .int) 2 := ⟨(tbl1 745 (by decide +kernel) rfl), tbl1 744 (by decide +kernel) rfl, in_RX6, by decide +kernel, by decide +kernel, by decide +kernel⟩
theorem ys_X6_mirror : zYs yX6_mirror cX6_mirror 2 (some .int) 2 := ⟨(tbl1 748 (by decide +kernel) rfl), tbl1 747 (by decide +kernel) rfl, in_RX6, by decide +kernel, by decide +kernel, by decide +kernel⟩
theorem yv_X6_keptBy : zYv yX6_keptBy cX6_keptBy 4 (some .int) 1 6 := ⟨(tbl1 752 (by decide +kernel) rfl), tbl1 751 (by decide +kernel) rfl, tbl_mem (List.mem_append_left _ (by decide +kernel)) rfl, in_RX6, ⟨by decide +kernel, by decide +kernel, by decide +kernel⟩, rfl⟩
theorem yv_X6_sameAs : zYv yX6_sameAs cX6_sameAs 3 (some .int) 1 6 := ⟨(tbl1 756 (by decide +kernel) rfl), tbl1 755 (by decide +kernel) rfl, tbl_mem (List.mem_append_left _ (by decide +kernel)) rfl, in_RX6, ⟨by decide +kernel, by decide +kernel, by decide +kernel⟩, rfl⟩
theorem yv_X6_areAlike : zYv yX6_areAlike cX6_areAlike 5 (some .boolean) 2 6 := ⟨(tbl1 760 (by decide +kernel) rfl), tbl1 759 (by decide +kernel) rfl, tbl_mem (List.mem_append_left _ (by decide +kernel)) rfl, in_RX6, ⟨by decide +kernel, by decide +kernel, by decide +kernel⟩, rfl⟩
theorem yv_X6_leads : zYv yX6_leads cX6_leads 3 (some .int) 2 6 := ⟨(tbl1 764 (by decide +kernel) rfl), tbl1 762 (by decide +kernel) rfl, tbl1 763 (by decide +kernel) rfl, in_RX6, ⟨by decide +kernel, by decide +kernel, by decide +kernel⟩, rfl⟩
theorem yv_X6_at : zYv yX6_at cX6_at 2 (some .int) 1 6 := ⟨(tbl1 768 (by decide +kernel) rfl), tbl1 766 (by decide +kernel) rfl, tbl1 767 (by decide +kernel) rfl, in_RX6, ⟨by decide +kernel, by decide +kernel, by decide +kernel⟩, rfl⟩
theorem yv_X6_isAngel : zYv yX6_isAngel cX6_isAngel 2 (some .boolean) 1 6 := ⟨(tbl1 772 (by decide +kernel) rfl), tbl1 771 (by decide +kernel) rfl, tbl_mem (List.mem_append_left _ (by decide +kernel)) rfl, in_RX6, ⟨by decide +kernel, by decide +kernel, by decide +kernel⟩, rfl⟩
theorem yv_X6_seen : zYv yX6_seen cX6_seen 2 (some .int) 1 6 := ⟨(tbl1 776 (by decide +kernel) rfl), tbl1 774 (by decide +kernel) rfl, tbl1 775 (by decide +kernel) rfl, in_RX6, ⟨by decide +kernel, by decide +kernel, by decide +kernel⟩, rfl⟩
theorem ys_X6_seenOf : zYs yX6_seenOf cX6_seenOf 7 (some .int) 2 := ⟨(tbl1 779 (by decide +kernel) rfl), tbl1 778 (by decide +kernel) rfl, in_RX6, by decide +kernel, by decide +kernel, by decide +kernel⟩
theorem yv_X6_type : zYv yX6_type cX6_type 2 (some .int) 1 6 := ⟨(tbl1 783 (by decide +kernel) rfl), tbl1 781 (by decide +kernel) rfl, tbl1 782 (by decide +kernel) rfl, in_RX6, ⟨by decide +kernel, by decide +kernel, by decide +kernel⟩, rfl⟩
theorem yv_X6_ring : zYv yX6_ring cX6_ring 2 (some .int) 0 6 := ⟨(tbl1 789 (by decide +kernel) rfl), tbl1 787 (by decide +kernel) rfl, tbl1 788 (by decide +kernel) rfl, in_RX6, ⟨by decide +kernel, by decide +kernel, by decide +kernel⟩, rfl⟩
theorem yv_X6_takesRing : zYv yX6_takesRing cX6_takesRing 1 (some .boolean) 0 6 := ⟨(tbl1 793 (by decide +kernel) rfl), tbl1 792 (by decide +kernel) rfl, tbl_mem (List.mem_append_left _ (by decide +kernel)) rfl, in_RX6, ⟨by decide +kernel, by decide +kernel, by decide +kernel⟩, rfl⟩
theorem yv_X6_takesPlaces : zYv yX6_takesPlaces cX6_takesPlaces 3 (some .boolean) 0 6 := ⟨(tbl1 797 (by decide +kernel) rfl), tbl1 796 (by decide +kernel) rfl, tbl_mem (List.mem_append_left _ (by decide +kernel)) rfl, in_RX6, ⟨by decide +kernel, by decide +kernel, by decide +kernel⟩, rfl⟩
theorem yv_X6_peek : zYv yX6_peek cX6_peek 1 (some .int) 0 6 := ⟨(tbl1 801 (by decide +kernel) rfl), tbl1 800 (by decide +kernel) rfl, tbl_mem (List.mem_append_left _ (by decide +kernel)) rfl, in_RX6, ⟨by decide +kernel, by decide +kernel, by decide +kernel⟩, rfl⟩
theorem yv_X6_takes : zYv yX6_takes cX6_takes 2 (some .boolean) 1 6 := ⟨(tbl1 805 (by decide +kernel) rfl), tbl1 804 (by decide +kernel) rfl, tbl_mem (List.mem_append_left _ (by decide +kernel)) rfl, in_RX6, ⟨by decide +kernel, by decide +kernel, by decide +kernel⟩, rfl⟩
theorem yv_X6_takesFigure : zYv yX6_takesFigure cX6_takesFigure 3 (some .boolean) 0 6 := ⟨(tbl1 809 (by decide +kernel) rfl), tbl1 808 (by decide +kernel) rfl, tbl_mem (List.mem_append_left _ (by decide +kernel)) rfl, in_RX6, ⟨by decide +kernel, by decide +kernel, by decide +kernel⟩, rfl⟩
theorem ys_X6_kindOf : zYs yX6_kindOf cX6_kindOf 1 (some .int) 1 := ⟨(tbl1 812 (by decide +kernel) rfl), tbl1 811 (by decide +kernel) rfl, in_RX6, by decide +kernel, by decide +kernel, by decide +kernel⟩
theorem yv_X6_takesTune : zYv yX6_takesTune cX6_takesTune 2 (some .boolean) 0 6 := ⟨(tbl1 816 (by decide +kernel) rfl), tbl1 815 (by decide +kernel) rfl, tbl_mem (List.mem_append_left _ (by decide +kernel)) rfl, in_RX6, ⟨by decide +kernel, by decide +kernel, by decide +kernel⟩, rfl⟩
theorem yv_X6_bring : zYv yX6_bring cX6_bring 5 none 3 6 := ⟨(tbl1 820 (by decide +kernel) rfl), tbl1 819 (by decide +kernel) rfl, tbl_mem (List.mem_append_left _ (by decide +kernel)) rfl, in_RX6, ⟨by decide +kernel, by decide +kernel, by decide +kernel⟩, rfl⟩
theorem yv_X6_count : zYv yX6_count cX6_count 2 (some .int) 1 6 := ⟨(tbl1 824 (by decide +kernel) rfl), tbl1 822 (by decide +kernel) rfl, tbl1 823 (by decide +kernel) rfl, in_RX6, ⟨by decide +kernel, by decide +kernel, by decide +kernel⟩, rfl⟩
theorem yv_X6_goneOnes : zYv yX6_goneOnes cX6_goneOnes 3 (some .int) 0 6 := ⟨(tbl1 828 (by decide +kernel) rfl), tbl1 827 (by decide +kernel) rfl, tbl_mem (List.mem_append_left _ (by decide +kernel)) rfl, in_RX6, ⟨by decide +kernel, by decide +kernel, by decide +kernel⟩, rfl⟩
theorem yv_X6_beats : zYv yX6_beats cX6_beats 3 (some .int) 1 6 := ⟨(tbl1 832 (by decide +kernel) rfl), tbl1 830 (by decide +kernel) rfl, tbl1 831 (by decide +kernel) rfl, in_RX6, ⟨by decide +kernel, by decide +kernel, by decide +kernel⟩, rfl⟩
theorem yv_X6_minds : zYv yX6_minds cX6_minds 1 none 0 6 := ⟨(tbl1 837 (by decide +kernel) rfl), tbl1 836 (by decide +kernel) rfl, tbl_mem (List.mem_append_left _ (by decide +kernel)) rfl, in_RX6, ⟨by decide +kernel, by decide +kernel, by decide +kernel⟩, rfl⟩
theorem yv_X6_passes : zYv yX6_passes cX6_passes 2 none 0 6 := ⟨(tbl1 841 (by decide +kernel) rfl), tbl1 840 (by decide +kernel) rfl, tbl_mem (List.mem_append_left _ (by decide +kernel)) rfl, in_RX6, ⟨by decide +kernel, by decide +kernel, by decide +kernel⟩, rfl⟩
theorem yv_X6_draught : zYv yX6_draught cX6_draught 2 (some .int) 1 6 := ⟨(tbl1 845 (by decide +kernel) rfl), tbl1 843 (by decide +kernel) rfl, tbl1 844 (by decide +kernel) rfl, in_RX6, ⟨by decide +kernel, by decide +kernel, by decide +kernel⟩, rfl⟩
theorem yv_X6_blows : zYv yX6_blows cX6_blows 3 none 1 6 := ⟨(tbl1 849 (by decide +kernel) rfl), tbl1 848 (by decide +kernel) rfl, tbl_mem (List.mem_append_left _ (by decide +kernel)) rfl, in_RX6, ⟨by decide +kernel, by decide +kernel, by decide +kernel⟩, rfl⟩
theorem yv_X6_leave : zYv yX6_leave cX6_leave 3 (some .int) 1 6 := ⟨(tbl1 853 (by decide +kernel) rfl), tbl1 851 (by decide +kernel) rfl, tbl1 852 (by decide +kernel) rfl, in_RX6, ⟨by decide +kernel, by decide +kernel, by decide +kernel⟩, rfl⟩
theorem yv_X6_come : zYv yX6_come cX6_come 3 (some .int) 2 6 := ⟨(tbl1 857 (by decide +kernel) rfl), tbl1 855 (by decide +kernel) rfl, tbl1 856 (by decide +kernel) rfl, in_RX6, ⟨by decide +kernel, by decide +kernel, by decide +kernel⟩, rfl⟩
theorem ys_X6_ones : zYs yX6_ones cX6_ones 3 (some .int) 1 := ⟨(tbl1 860 (by decide +kernel) rfl), tbl1 859 (by decide +kernel) rfl, in_RX6, by decide +kernel, by decide +kernel, by decide +kernel⟩
theorem yv_X6_drift : zYv yX6_drift cX6_drift 3 (some .int) 1 6 := ⟨(tbl1 864 (by decide +kernel) rfl), tbl1 862 (by decide +kernel) rfl, tbl1 863 (by decide +kernel) rfl, in_RX6, ⟨by decide +kernel, by decide +kernel, by decide +kernel⟩, rfl⟩
theorem yv_X6_undo : zYv yX6_undo cX6_undo 1 (some .int) 0 6 := ⟨(tbl1 872 (by decide +kernel) rfl), tbl1 870 (by decide +kernel) rfl, tbl1 871 (by decide +kernel) rfl, in_RX6, ⟨by decide +kernel, by decide +kernel, by decide +kernel⟩, rfl⟩
theorem yv_X6_seed : zYv yX6_seed cX6_seed 3 (some .int) 1 6 := ⟨(tbl1 876 (by decide +kernel) rfl), tbl1 874 (by decide +kernel) rfl, tbl1 875 (by decide +kernel) rfl, in_RX6, ⟨by decide +kernel, by decide +kernel, by decide +kernel⟩, rfl⟩
theorem yv_X6_ahead : zYv yX6_ahead cX6_ahead 3 (some .int) 2 6 := ⟨(tbl1 880 (by decide +kernel) rfl), tbl1 878 (by decide +kernel) rfl, tbl1 879 (by decide +kernel) rfl, in_RX6, ⟨by decide +kernel, by decide +kernel, by decide +kernel⟩, rfl⟩
theorem ys_X6_isTime : zYs yX6_isTime cX6_isTime 1 (some .boolean) 1 := ⟨(tbl1 883 (by decide +kernel) rfl), tbl1 882 (by decide +kernel) rfl, in_RX6, by decide +kernel, by decide +kernel, by decide +kernel⟩
theorem yv_X6_behind : zYv yX6_behind cX6_behind 6 (some .int) 2 6 := ⟨(tbl1 888 (by decide +kernel) rfl), tbl1 887 (by decide +kernel) rfl, tbl_mem (List.mem_append_left _ (by decide +kernel)) rfl, in_RX6, ⟨by decide +kernel, by decide +kernel, by decide +kernel⟩, rfl⟩
theorem yv_X6_ringOf : zYv yX6_ringOf cX6_ringOf 4 (some .int) 1 6 := ⟨(tbl1 892 (by decide +kernel) rfl), tbl1 891 (by decide +kernel) rfl, tbl_mem (List.mem_append_left _ (by decide +kernel)) rfl, in_RX6, ⟨by decide +kernel, by decide +kernel, by decide +kernel⟩, rfl⟩
theorem yv_X6_goesBy : zYv yX6_goesBy cX6_goesBy 5 (some .int) 2 6 := ⟨(tbl1 896 (by decide +kernel) rfl), tbl1 895 (by decide +kernel) rfl, tbl_mem (List.mem_append_left _ (by decide +kernel)) rfl, in_RX6, ⟨by decide +kernel, by decide +kernel, by decide +kernel⟩, rfl⟩
theorem yv_X6_then : zYv yX6_then cX6_then 8 (some .int) 3 6 := ⟨(tbl1 900 (by decide +kernel) rfl), tbl1 898 (by decide +kernel) rfl, tbl1 899 (by decide +kernel) rfl, in_RX6, ⟨by decide +kernel, by decide +kernel, by decide +kernel⟩, rfl⟩
theorem yv_X6_back : zYv yX6_back cX6_back 6 (some .int) 1 6 := ⟨(tbl1 904 (by decide +kernel) rfl), tbl1 902 (by decide +kernel) rfl, tbl1 903 (by decide +kernel) rfl, in_RX6, ⟨by decide +kernel, by decide +kernel, by decide +kernel⟩, rfl⟩
theorem yv_X6_been : zYv yX6_been cX6_been 6 (some .int) 1 6 := ⟨(tbl1 908 (by decide +kernel) rfl), tbl1 906 (by decide +kernel) rfl, tbl1 907 (by decide +kernel) rfl, in_RX6, ⟨by decide +kernel, by decide +kernel, by decide +kernel⟩, rfl⟩
theorem yv_X6_shortest : zYv yX6_shortest cX6_shortest 7 (some .int) 2 6 := ⟨(tbl1 912 (by decide +kernel) rfl), tbl1 910 (by decide +kernel) rfl, tbl1 911 (by decide +kernel) rfl, in_RX6, ⟨by decide +kernel, by decide +kernel, by decide +kernel⟩, rfl⟩
theorem yv_X6_laysLeft : zYv yX6_laysLeft cX6_laysLeft 6 none 1 6 := ⟨(tbl1 917 (by decide +kernel) rfl), tbl1 916 (by decide +kernel) rfl, tbl_mem (List.mem_append_left _ (by decide +kernel)) rfl, in_RX6, ⟨by decide +kernel, by decide +kernel, by decide +kernel⟩, rfl⟩
theorem yv_X6_ledBy : zYv yX6_ledBy cX6_ledBy 5 (some .int) 2 6 := ⟨(tbl1 922 (by decide +kernel) rfl), tbl1 921 (by decide +kernel) rfl, tbl_mem (List.mem_append_left _ (by decide +kernel)) rfl, in_RX6, ⟨by decide +kernel, by decide +kernel, by decide +kernel⟩, rfl⟩
theorem yv_X6_sorts : zYv yX6_sorts cX6_sorts 1 (some .int) 0 6 := ⟨(tbl1 926 (by decide +kernel) rfl), tbl1 924 (by decide +kernel) rfl, tbl1 925 (by decide +kernel) rfl, in_RX6, ⟨by decide +kernel, by decide +kernel, by decide +kernel⟩, rfl⟩
theorem yv_X6_laysFar : zYv yX6_laysFar cX6_laysFar 6 (some .int) 1 6 := ⟨(tbl1 930 (by decide +kernel) rfl), tbl1 929 (by decide +kernel) rfl, tbl_mem (List.mem_append_left _ (by decide +kernel)) rfl, in_RX6, ⟨by decide +kernel, by decide +kernel, by decide +kernel⟩, rfl⟩
theorem yv_X6_apart : zYv yX6_apart cX6_apart 12 (some .int) 3 6 := ⟨(tbl1 934 (by decide +kernel) rfl), tbl1 932 (by decide +kernel) rfl, tbl1 933 (by decide +kernel) rfl, in_RX6, ⟨by decide +kernel, by decide +kernel, by decide +kernel⟩, rfl⟩
theorem ys_X6_apartBy : zYs yX6_apartBy cX6_apartBy 3 (some .int) 2 := ⟨(tbl1 937 (by decide +kernel) rfl), tbl1 936 (by decide +kernel) rfl, in_RX6, by decide +kernel, by decide +kernel, by decide +kernel⟩
theorem yv_X6_chance : zYv yX6_chance cX6_chance 13 (some .int) 4 6 := ⟨(tbl1 941 (by decide +kernel) rfl), tbl1 939 (by decide +kernel) rfl, tbl1 940 (by decide +kernel) rfl, in_RX6, ⟨by decide +kernel, by decide +kernel, by decide +kernel⟩, rfl⟩
theorem yv_X6_image : zYv yX6_image cX6_image 1 (some .int) 0 6 := ⟨(tbl1 946 (by decide +kernel) rfl), tbl1 944 (by decide +kernel) rfl, tbl1 945 (by decide +kernel) rfl, in_RX6, ⟨by decide +kernel, by decide +kernel, by decide +kernel⟩, rfl⟩
theorem yv_X6_restore : zYv yX6_restore cX6_restore 1 (some .int) 0 6 := ⟨(tbl1 950 (by decide +kernel) rfl), tbl1 948 (by decide +kernel) rfl, tbl1 949 (by decide +kernel) rfl, in_RX6, ⟨by decide +kernel, by decide +kernel, by decide +kernel⟩, rfl⟩
theorem yv_X6_counts : zYv yX6_counts cX6_counts 14 (some .int) 6 6 := ⟨(tbl1 954 (by decide +kernel) rfl), tbl1 952 (by decide +kernel) rfl, tbl1 953 (by decide +kernel) rfl, in_RX6, ⟨by decide +kernel, by decide +kernel, by decide +kernel⟩, rfl⟩
theorem ys_X6_isLane : zYs yX6_isLane cX6_isLane 2 (some .boolean) 2 := ⟨(tbl1 957 (by decide +kernel) rfl), tbl1 956 (by decide +kernel) rfl, in_RX6, by decide +kernel, by decide +kernel, by decide +kernel⟩
theorem ys_X6_isSheet : zYs yX6_isSheet cX6_isSheet 1 (some .boolean) 1 := ⟨(tbl1 960 (by decide +kernel) rfl), tbl1 959 (by decide +kernel) rfl, in_RX6, by decide +kernel, by decide +kernel, by decide +kernel⟩
theorem yv_X6_against : zYv yX6_against cX6_against 5 (some .int) 4 6 := ⟨(tbl1 966 (by decide +kernel) rfl), tbl1 965 (by decide +kernel) rfl, tbl_mem (List.mem_append_left _ (by decide +kernel)) rfl, in_RX6, ⟨by decide +kernel, by decide +kernel, by decide +kernel⟩, rfl⟩
theorem yv_X6_steps : zYv yX6_steps cX6_steps 16 (some .int) 7 6 := ⟨(tbl1 970 (by decide +kernel) rfl), tbl1 968 (by decide +kernel) rfl, tbl1 969 (by decide +kernel) rfl, in_RX6, ⟨by decide +kernel, by decide +kernel, by decide +kernel⟩, rfl⟩
theorem yv_X6_film : zYv yX6_film cX6_film 8 (some .int) 5 6 := ⟨(tbl1 974 (by decide +kernel) rfl), tbl1 972 (by decide +kernel) rfl, tbl1 973 (by decide +kernel) rfl, in_RX6, ⟨by decide +kernel, by decide +kernel, by decide +kernel⟩, rfl⟩
theorem yv_X6_sheet : zYv yX6_sheet cX6_sheet 5 (some .int) 3 6 := ⟨(tbl1 979 (by decide +kernel) rfl), tbl1 977 (by decide +kernel) rfl, tbl1 978 (by decide +kernel) rfl, in_RX6, ⟨by decide +kernel, by decide +kernel, by decide +kernel⟩, rfl⟩
theorem yv_X6_drop : zYv yX6_drop cX6_drop 3 (some .int) 1 6 := ⟨(tbl1 983 (by decide +kernel) rfl), tbl1 981 (by decide +kernel) rfl, tbl1 982 (by decide +kernel) rfl, in_RX6, ⟨by decide +kernel, by decide +kernel, by decide +kernel⟩, rfl⟩
theorem yv_X6_item : zYv yX6_item cX6_item 7 (some .int) 4 6 := ⟨(tbl1 987 (by decide +kernel) rfl), tbl1 985 (by decide +kernel) rfl, tbl1 986 (by decide +kernel) rfl, in_RX6, ⟨by decide +kernel, by decide +kernel, by decide +kernel⟩, rfl⟩
theorem ys_X6_lowest : zYs yX6_lowest cX6_lowest 3 (some .long) 2 := ⟨(tbl1 990 (by decide +kernel) rfl), tbl1 989 (by decide +kernel) rfl, in_RX6, by decide +kernel, by decide +kernel, by decide +kernel⟩
theorem yv_X6_copy : zYv yX6_copy cX6_copy 7 (some .int) 5 6 := ⟨(tbl1 994 (by decide +kernel) rfl), tbl1 992 (by decide +kernel) rfl, tbl1 993 (by decide +kernel) rfl, in_RX6, ⟨by decide +kernel, by decide +kernel, by decide +kernel⟩, rfl⟩
end
section
theorem dX0_init_0 : decode cX0_init 0 = .ok (.aload_n 0, 1) := by decide +kernel
theorem dX0_init_1 : decode cX0_init 1 = .ok (.invokespecial 3, 3) := by decide +kernel
theorem dX0_init_4 : decode cX0_init 4 = .ok (.aload_n 0, 1) := by decide +kernel
theorem dX0_init_5 : decode cX0_init 5 = .ok (.bipush 64, 2) := by decide +kernel
theorem dX0_init_7 : decode cX0_init 7 = .ok (.newarray .int, 2) := by decide +kernel
theorem dX0_init_9 : decode cX0_init 9 = .ok (.putfield 9, 3) := by decide +kernel
theorem dX0_init_12 : decode cX0_init 12 = .ok (.aload_n 0, 1) := by decide +kernel
theorem dX0_init_13 : decode cX0_init 13 = .ok (.bipush 8, 2) := by decide +kernel
theorem dX0_init_15 : decode cX0_init 15 = .ok (.newarray .int, 2) := by decide +kernel
theorem dX0_init_17 : decode cX0_init 17 = .ok (.putfield 15, 3) := by decide +kernel
theorem dX0_init_20 : decode cX0_init 20 = .ok (.aload_n 0, 1) := by decide +kernel
theorem dX0_init_21 : decode cX0_init 21 = .ok (.bipush 8, 2) := by decide +kernel
theorem dX0_init_23 : decode cX0_init 23 = .ok (.newarray .int, 2) := by decide +kernel
theorem dX0_init_25 : decode cX0_init 25 = .ok (.putfield 18, 3) := by decide +kernel
theorem dX0_init_28 : decode cX0_init 28 = .ok (.return_, 1) := by decide +kernel
theorem dX0_forget_0 : decode cX0_forget 0 = .ok (.aload_n 0, 1) := by decide +kernel
theorem dX0_forget_1 : decode cX0_forget 1 = .ok (.iconst 0, 1) := by decide +kernel
theorem dX0_forget_2 : decode cX0_forget 2 = .ok (.putfield 21, 3) := by decide +kernel
theorem dX0_forget_5 : decode cX0_forget 5 = .ok (.return_, 1) := by decide +kernel
theorem dX0_becomeLike_0 : decode cX0_becomeLike 0 = .ok (.aload_n 1, 1) := by decide +kernel
theorem dX0_becomeLike_1 : decode cX0_becomeLike 1 = .ok (.getfield 9, 3) := by decide +kernel
theorem dX0_becomeLike_4 : decode cX0_becomeLike 4 = .ok (.iconst 0, 1) := by decide +kernel
theorem dX0_becomeLike_5 : decode cX0_becomeLike 5 = .ok (.aload_n 0, 1) := by decide +kernel
theorem dX0_becomeLike_6 : decode cX0_becomeLike 6 = .ok (.getfield 9, 3) := by decide +kernel
theorem dX0_becomeLike_9 : decode cX0_becomeLike 9 = .ok (.iconst 0, 1) := by decide +kernel
theorem dX0_becomeLike_10 : decode cX0_becomeLike 10 = .ok (.bipush 64, 2) := by decide +kernel
theorem dX0_becomeLike_12 : decode cX0_becomeLike 12 = .ok (.invokestatic 25, 3) := by decide +kernel
theorem dX0_becomeLike_15 : decode cX0_becomeLike 15 = .ok (.aload_n 1, 1) := by decide +kernel
theorem dX0_becomeLike_16 : decode cX0_becomeLike 16 = .ok (.getfield 15, 3) := by decide +kernel
theorem dX0_becomeLike_19 : decode cX0_becomeLike 19 = .ok (.iconst 0, 1) := by decide +kernel
theorem dX0_becomeLike_20 : decode cX0_becomeLike 20 = .ok (.aload_n 0, 1) := by decide +kernel
theorem dX0_becomeLike_21 : decode cX0_becomeLike 21 = .ok (.getfield 15, 3) := by decide +kernel
theorem dX0_becomeLike_24 : decode cX0_becomeLike 24 = .ok (.iconst 0, 1) := by decide +kernel
theorem dX0_becomeLike_25 : decode cX0_becomeLike 25 = .ok (.bipush 8, 2) := by decide +kernel
theorem dX0_becomeLike_27 : decode cX0_becomeLike 27 = .ok (.invokestatic 25, 3) := by decide +kernel
theorem dX0_becomeLike_30 : decode cX0_becomeLike 30 = .ok (.aload_n 1, 1) := by decide +kernel
theorem dX0_becomeLike_31 : decode cX0_becomeLike 31 = .ok (.getfield 18, 3) := by decide +kernel
theorem dX0_becomeLike_34 : decode cX0_becomeLike 34 = .ok (.iconst 0, 1) := by decide +kernel
theorem dX0_becomeLike_35 : decode cX0_becomeLike 35 = .ok (.aload_n 0, 1) := by decide +kernel
theorem dX0_becomeLike_36 : decode cX0_becomeLike 36 = .ok (.getfield 18, 3) := by decide +kernel
theorem dX0_becomeLike_39 : decode cX0_becomeLike 39 = .ok (.iconst 0, 1) := by decide +kernel
theorem dX0_becomeLike_40 : decode cX0_becomeLike 40 = .ok (.bipush 8, 2) := by decide +kernel
theorem dX0_becomeLike_42 : decode cX0_becomeLike 42 = .ok (.invokestatic 25, 3) := by decide +kernel
theorem dX0_becomeLike_45 : decode cX0_becomeLike 45 = .ok (.aload_n 0, 1) := by decide +kernel
theorem dX0_becomeLike_46 : decode cX0_becomeLike 46 = .ok (.aload_n 1, 1) := by decide +kernel
theorem dX0_becomeLike_47 : decode cX0_becomeLike 47 = .ok (.getfield 31, 3) := by decide +kernel
theorem dX0_becomeLike_50 : decode cX0_becomeLike 50 = .ok (.putfield 31, 3) := by decide +kernel
theorem dX0_becomeLike_53 : decode cX0_becomeLike 53 = .ok (.aload_n 0, 1) := by decide +kernel
theorem dX0_becomeLike_54 : decode cX0_becomeLike 54 = .ok (.aload_n 1, 1) := by decide +kernel
theorem dX0_becomeLike_55 : decode cX0_becomeLike 55 = .ok (.getfield 21, 3) := by decide +kernel
theorem dX0_becomeLike_58 : decode cX0_becomeLike 58 = .ok (.putfield 21, 3) := by decide +kernel
theorem dX0_becomeLike_61 : decode cX0_becomeLike 61 = .ok (.return_, 1) := by decide +kernel
theorem dX0_note_0 : decode cX0_note 0 = .ok (.aload_n 1, 1) := by decide +kernel
theorem dX0_note_1 : decode cX0_note 1 = .ok (.getfield 34, 3) := by decide +kernel
theorem dX0_note_4 : decode cX0_note 4 = .ok (.iconst 0, 1) := by decide +kernel
theorem dX0_note_5 : decode cX0_note 5 = .ok (.aload_n 0, 1) := by decide +kernel
theorem dX0_note_6 : decode cX0_note 6 = .ok (.getfield 9, 3) := by decide +kernel
theorem dX0_note_9 : decode cX0_note 9 = .ok (.aload_n 0, 1) := by decide +kernel
theorem dX0_note_10 : decode cX0_note 10 = .ok (.getfield 31, 3) := by decide +kernel
theorem dX0_note_13 : decode cX0_note 13 = .ok (.bipush 8, 2) := by decide +kernel
theorem dX0_note_15 : decode cX0_note 15 = .ok (.imul, 1) := by decide +kernel
theorem dX0_note_16 : decode cX0_note 16 = .ok (.bipush 8, 2) := by decide +kernel
theorem dX0_note_18 : decode cX0_note 18 = .ok (.invokestatic 25, 3) := by decide +kernel
theorem dX0_note_21 : decode cX0_note 21 = .ok (.aload_n 0, 1) := by decide +kernel
theorem dX0_note_22 : decode cX0_note 22 = .ok (.getfield 15, 3) := by decide +kernel
theorem dX0_note_25 : decode cX0_note 25 = .ok (.aload_n 0, 1) := by decide +kernel
theorem dX0_note_26 : decode cX0_note 26 = .ok (.getfield 31, 3) := by decide +kernel
theorem dX0_note_29 : decode cX0_note 29 = .ok (.aload_n 1, 1) := by decide +kernel
theorem dX0_note_30 : decode cX0_note 30 = .ok (.getfield 37, 3) := by decide +kernel
theorem dX0_note_33 : decode cX0_note 33 = .ok (.iastore, 1) := by decide +kernel
theorem dX0_note_34 : decode cX0_note 34 = .ok (.aload_n 0, 1) := by decide +kernel
theorem dX0_note_35 : decode cX0_note 35 = .ok (.getfield 18, 3) := by decide +kernel
theorem dX0_note_38 : decode cX0_note 38 = .ok (.aload_n 0, 1) := by decide +kernel
theorem dX0_note_39 : decode cX0_note 39 = .ok (.getfield 31, 3) := by decide +kernel
theorem dX0_note_42 : decode cX0_note 42 = .ok (.aload_n 1, 1) := by decide +kernel
theorem dX0_note_43 : decode cX0_note 43 = .ok (.getfield 40, 3) := by decide +kernel
theorem dX0_note_46 : decode cX0_note 46 = .ok (.iastore, 1) := by decide +kernel
theorem dX0_note_47 : decode cX0_note 47 = .ok (.aload_n 0, 1) := by decide +kernel
theorem dX0_note_48 : decode cX0_note 48 = .ok (.aload_n 0, 1) := by decide +kernel
theorem dX0_note_49 : decode cX0_note 49 = .ok (.getfield 31, 3) := by decide +kernel
theorem dX0_note_52 : decode cX0_note 52 = .ok (.iconst 1, 1) := by decide +kernel
theorem dX0_note_53 : decode cX0_note 53 = .ok (.iadd, 1) := by decide +kernel
theorem dX0_note_54 : decode cX0_note 54 = .ok (.bipush 8, 2) := by decide +kernel
theorem dX0_note_56 : decode cX0_note 56 = .ok (.irem, 1) := by decide +kernel
theorem dX0_note_57 : decode cX0_note 57 = .ok (.putfield 31, 3) := by decide +kernel
theorem dX0_note_60 : decode cX0_note 60 = .ok (.aload_n 0, 1) := by decide +kernel
theorem dX0_note_61 : decode cX0_note 61 = .ok (.aload_n 0, 1) := by decide +kernel
theorem dX0_note_62 : decode cX0_note 62 = .ok (.getfield 21, 3) := by decide +kernel
theorem dX0_note_65 : decode cX0_note 65 = .ok (.iconst 1, 1) := by decide +kernel
theorem dX0_note_66 : decode cX0_note 66 = .ok (.iadd, 1) := by decide +kernel
theorem dX0_note_67 : decode cX0_note 67 = .ok (.bipush 8, 2) := by decide +kernel
theorem dX0_note_69 : decode cX0_note 69 = .ok (.invokestatic 43, 3) := by decide +kernel
theorem dX0_note_72 : decode cX0_note 72 = .ok (.putfield 21, 3) := by decide +kernel
theorem dX0_note_75 : decode cX0_note 75 = .ok (.return_, 1) := by decide +kernel
theorem dX0_bringBack_0 : decode cX0_bringBack 0 = .ok (.aload_n 0, 1) := by decide +kernel
theorem dX0_bringBack_1 : decode cX0_bringBack 1 = .ok (.aload_n 0, 1) := by decide +kernel
theorem dX0_bringBack_2 : decode cX0_bringBack 2 = .ok (.getfield 31, 3) := by decide +kernel
theorem dX0_bringBack_5 : decode cX0_bringBack 5 = .ok (.bipush 8, 2) := by decide +kernel
theorem dX0_bringBack_7 : decode cX0_bringBack 7 = .ok (.iadd, 1) := by decide +kernel
theorem dX0_bringBack_8 : decode cX0_bringBack 8 = .ok (.iconst 1, 1) := by decide +kernel
theorem dX0_bringBack_9 : decode cX0_bringBack 9 = .ok (.isub, 1) := by decide +kernel
theorem dX0_bringBack_10 : decode cX0_bringBack 10 = .ok (.bipush 8, 2) := by decide +kernel
theorem dX0_bringBack_12 : decode cX0_bringBack 12 = .ok (.irem, 1) := by decide +kernel
theorem dX0_bringBack_13 : decode cX0_bringBack 13 = .ok (.putfield 31, 3) := by decide +kernel
theorem dX0_bringBack_16 : decode cX0_bringBack 16 = .ok (.aload_n 0, 1) := by decide +kernel
theorem dX0_bringBack_17 : decode cX0_bringBack 17 = .ok (.dup, 1) := by decide +kernel
theorem dX0_bringBack_18 : decode cX0_bringBack 18 = .ok (.getfield 21, 3) := by decide +kernel
theorem dX0_bringBack_21 : decode cX0_bringBack 21 = .ok (.iconst 1, 1) := by decide +kernel
theorem dX0_bringBack_22 : decode cX0_bringBack 22 = .ok (.isub, 1) := by decide +kernel
theorem dX0_bringBack_23 : decode cX0_bringBack 23 = .ok (.putfield 21, 3) := by decide +kernel
theorem dX0_bringBack_26 : decode cX0_bringBack 26 = .ok (.aload_n 0, 1) := by decide +kernel
theorem dX0_bringBack_27 : decode cX0_bringBack 27 = .ok (.getfield 9, 3) := by decide +kernel
theorem dX0_bringBack_30 : decode cX0_bringBack 30 = .ok (.aload_n 0, 1) := by decide +kernel
theorem dX0_bringBack_31 : decode cX0_bringBack 31 = .ok (.getfield 31, 3) := by decide +kernel
theorem dX0_bringBack_34 : decode cX0_bringBack 34 = .ok (.bipush 8, 2) := by decide +kernel
theorem dX0_bringBack_36 : decode cX0_bringBack 36 = .ok (.imul, 1) := by decide +kernel
theorem dX0_bringBack_37 : decode cX0_bringBack 37 = .ok (.aload_n 1, 1) := by decide +kernel
theorem dX0_bringBack_38 : decode cX0_bringBack 38 = .ok (.getfield 34, 3) := by decide +kernel
theorem dX0_bringBack_41 : decode cX0_bringBack 41 = .ok (.iconst 0, 1) := by decide +kernel
theorem dX0_bringBack_42 : decode cX0_bringBack 42 = .ok (.bipush 8, 2) := by decide +kernel
theorem dX0_bringBack_44 : decode cX0_bringBack 44 = .ok (.invokestatic 25, 3) := by decide +kernel
theorem dX0_bringBack_47 : decode cX0_bringBack 47 = .ok (.aload_n 1, 1) := by decide +kernel
theorem dX0_bringBack_48 : decode cX0_bringBack 48 = .ok (.aload_n 0, 1) := by decide +kernel
theorem dX0_bringBack_49 : decode cX0_bringBack 49 = .ok (.getfield 15, 3) := by decide +kernel
theorem dX0_bringBack_52 : decode cX0_bringBack 52 = .ok (.aload_n 0, 1) := by decide +kernel
theorem dX0_bringBack_53 : decode cX0_bringBack 53 = .ok (.getfield 31, 3) := by decide +kernel
theorem dX0_bringBack_56 : decode cX0_bringBack 56 = .ok (.iaload, 1) := by decide +kernel
theorem dX0_bringBack_57 : decode cX0_bringBack 57 = .ok (.putfield 37, 3) := by decide +kernel
theorem dX0_bringBack_60 : decode cX0_bringBack 60 = .ok (.aload_n 1, 1) := by decide +kernel
theorem dX0_bringBack_61 : decode cX0_bringBack 61 = .ok (.aload_n 0, 1) := by decide +kernel
theorem dX0_bringBack_62 : decode cX0_bringBack 62 = .ok (.getfield 18, 3) := by decide +kernel
theorem dX0_bringBack_65 : decode cX0_bringBack 65 = .ok (.aload_n 0, 1) := by decide +kernel
theorem dX0_bringBack_66 : decode cX0_bringBack 66 = .ok (.getfield 31, 3) := by decide +kernel
theorem dX0_bringBack_69 : decode cX0_bringBack 69 = .ok (.iaload, 1) := by decide +kernel
theorem dX0_bringBack_70 : decode cX0_bringBack 70 = .ok (.putfield 40, 3) := by decide +kernel
theorem dX0_bringBack_73 : decode cX0_bringBack 73 = .ok (.return_, 1) := by decide +kernel
theorem dX1_init_0 : decode cX1_init 0 = .ok (.aload_n 0, 1) := by decide +kernel
theorem dX1_init_1 : decode cX1_init 1 = .ok (.invokespecial 3, 3) := by decide +kernel
theorem dX1_init_4 : decode cX1_init 4 = .ok (.aload_n 0, 1) := by decide +kernel
theorem dX1_init_5 : decode cX1_init 5 = .ok (.bipush 8, 2) := by decide +kernel
theorem dX1_init_7 : decode cX1_init 7 = .ok (.newarray .int, 2) := by decide +kernel
theorem dX1_init_9 : decode cX1_init 9 = .ok (.putfield 9, 3) := by decide +kernel
theorem dX1_init_12 : decode cX1_init 12 = .ok (.aload_n 0, 1) := by decide +kernel
theorem dX1_init_13 : decode cX1_init 13 = .ok (.iconst 5, 1) := by decide +kernel
theorem dX1_init_14 : decode cX1_init 14 = .ok (.newarray .int, 2) := by decide +kernel
theorem dX1_init_16 : decode cX1_init 16 = .ok (.putfield 15, 3) := by decide +kernel
theorem dX1_init_19 : decode cX1_init 19 = .ok (.aload_n 0, 1) := by decide +kernel
theorem dX1_init_20 : decode cX1_init 20 = .ok (.iconst 5, 1) := by decide +kernel
theorem dX1_init_21 : decode cX1_init 21 = .ok (.newarray .int, 2) := by decide +kernel
theorem dX1_init_23 : decode cX1_init 23 = .ok (.putfield 18, 3) := by decide +kernel
theorem dX1_init_26 : decode cX1_init 26 = .ok (.aload_n 0, 1) := by decide +kernel
theorem dX1_init_27 : decode cX1_init 27 = .ok (.bipush 40, 2) := by decide +kernel
theorem dX1_init_29 : decode cX1_init 29 = .ok (.newarray .int, 2) := by decide +kernel
theorem dX1_init_31 : decode cX1_init 31 = .ok (.putfield 21, 3) := by decide +kernel
theorem dX1_init_34 : decode cX1_init 34 = .ok (.aload_n 0, 1) := by decide +kernel
theorem dX1_init_35 : decode cX1_init 35 = .ok (.bipush 16, 2) := by decide +kernel
theorem dX1_init_37 : decode cX1_init 37 = .ok (.newarray .int, 2) := by decide +kernel
theorem dX1_init_39 : decode cX1_init 39 = .ok (.putfield 24, 3) := by decide +kernel
theorem dX1_init_42 : decode cX1_init 42 = .ok (.aload_n 0, 1) := by decide +kernel
theorem dX1_init_43 : decode cX1_init 43 = .ok (.new 27, 3) := by decide +kernel
theorem dX1_init_46 : decode cX1_init 46 = .ok (.dup, 1) := by decide +kernel
theorem dX1_init_47 : decode cX1_init 47 = .ok (.invokespecial 29, 3) := by decide +kernel
theorem dX1_init_50 : decode cX1_init 50 = .ok (.putfield 30, 3) := by decide +kernel
theorem dX1_init_53 : decode cX1_init 53 = .ok (.aload_n 0, 1) := by decide +kernel
theorem dX1_init_54 : decode cX1_init 54 = .ok (.iconst 1, 1) := by decide +kernel
theorem dX1_init_55 : decode cX1_init 55 = .ok (.putfield 34, 3) := by decide +kernel
theorem dX1_init_58 : decode cX1_init 58 = .ok (.return_, 1) := by decide +kernel
theorem dX1_clear_0 : decode cX1_clear 0 = .ok (.aload_n 0, 1) := by decide +kernel
theorem dX1_clear_1 : decode cX1_clear 1 = .ok (.iconst 0, 1) := by decide +kernel
theorem dX1_clear_2 : decode cX1_clear 2 = .ok (.putfield 38, 3) := by decide +kernel
theorem dX1_clear_5 : decode cX1_clear 5 = .ok (.aload_n 0, 1) := by decide +kernel
theorem dX1_clear_6 : decode cX1_clear 6 = .ok (.iconst 0, 1) := by decide +kernel
theorem dX1_clear_7 : decode cX1_clear 7 = .ok (.putfield 41, 3) := by decide +kernel
theorem dX1_clear_10 : decode cX1_clear 10 = .ok (.aload_n 0, 1) := by decide +kernel
theorem dX1_clear_11 : decode cX1_clear 11 = .ok (.iconst 0, 1) := by decide +kernel
theorem dX1_clear_12 : decode cX1_clear 12 = .ok (.putfield 44, 3) := by decide +kernel
theorem dX1_clear_15 : decode cX1_clear 15 = .ok (.aload_n 0, 1) := by decide +kernel
theorem dX1_clear_16 : decode cX1_clear 16 = .ok (.iconst 0, 1) := by decide +kernel
theorem dX1_clear_17 : decode cX1_clear 17 = .ok (.putfield 47, 3) := by decide +kernel
theorem dX1_clear_20 : decode cX1_clear 20 = .ok (.aload_n 0, 1) := by decide +kernel
theorem dX1_clear_21 : decode cX1_clear 21 = .ok (.getfield 30, 3) := by decide +kernel
theorem dX1_clear_24 : decode cX1_clear 24 = .ok (.invokevirtual 50, 3) := by decide +kernel
theorem dX1_clear_27 : decode cX1_clear 27 = .ok (.return_, 1) := by decide +kernel
theorem dX1_becomeLike_0 : decode cX1_becomeLike 0 = .ok (.aload_n 1, 1) := by decide +kernel
theorem dX1_becomeLike_1 : decode cX1_becomeLike 1 = .ok (.getfield 9, 3) := by decide +kernel
theorem dX1_becomeLike_4 : decode cX1_becomeLike 4 = .ok (.iconst 0, 1) := by decide +kernel
theorem dX1_becomeLike_5 : decode cX1_becomeLike 5 = .ok (.aload_n 0, 1) := by decide +kernel
theorem dX1_becomeLike_6 : decode cX1_becomeLike 6 = .ok (.getfield 9, 3) := by decide +kernel
theorem dX1_becomeLike_9 : decode cX1_becomeLike 9 = .ok (.iconst 0, 1) := by decide +kernel
theorem dX1_becomeLike_10 : decode cX1_becomeLike 10 = .ok (.bipush 8, 2) := by decide +kernel
theorem dX1_becomeLike_12 : decode cX1_becomeLike 12 = .ok (.invokestatic 53, 3) := by decide +kernel
theorem dX1_becomeLike_15 : decode cX1_becomeLike 15 = .ok (.aload_n 1, 1) := by decide +kernel
theorem dX1_becomeLike_16 : decode cX1_becomeLike 16 = .ok (.getfield 15, 3) := by decide +kernel
theorem dX1_becomeLike_19 : decode cX1_becomeLike 19 = .ok (.iconst 0, 1) := by decide +kernel
theorem dX1_becomeLike_20 : decode cX1_becomeLike 20 = .ok (.aload_n 0, 1) := by decide +kernel
theorem dX1_becomeLike_21 : decode cX1_becomeLike 21 = .ok (.getfield 15, 3) := by decide +kernel
theorem dX1_becomeLike_24 : decode cX1_becomeLike 24 = .ok (.iconst 0, 1) := by decide +kernel
theorem dX1_becomeLike_25 : decode cX1_becomeLike 25 = .ok (.iconst 5, 1) := by decide +kernel
theorem dX1_becomeLike_26 : decode cX1_becomeLike 26 = .ok (.invokestatic 53, 3) := by decide +kernel
theorem dX1_becomeLike_29 : decode cX1_becomeLike 29 = .ok (.aload_n 1, 1) := by decide +kernel
theorem dX1_becomeLike_30 : decode cX1_becomeLike 30 = .ok (.getfield 18, 3) := by decide +kernel
theorem dX1_becomeLike_33 : decode cX1_becomeLike 33 = .ok (.iconst 0, 1) := by decide +kernel
theorem dX1_becomeLike_34 : decode cX1_becomeLike 34 = .ok (.aload_n 0, 1) := by decide +kernel
theorem dX1_becomeLike_35 : decode cX1_becomeLike 35 = .ok (.getfield 18, 3) := by decide +kernel
theorem dX1_becomeLike_38 : decode cX1_becomeLike 38 = .ok (.iconst 0, 1) := by decide +kernel
theorem dX1_becomeLike_39 : decode cX1_becomeLike 39 = .ok (.iconst 5, 1) := by decide +kernel
theorem dX1_becomeLike_40 : decode cX1_becomeLike 40 = .ok (.invokestatic 53, 3) := by decide +kernel
theorem dX1_becomeLike_43 : decode cX1_becomeLike 43 = .ok (.aload_n 1, 1) := by decide +kernel
theorem dX1_becomeLike_44 : decode cX1_becomeLike 44 = .ok (.getfield 21, 3) := by decide +kernel
theorem dX1_becomeLike_47 : decode cX1_becomeLike 47 = .ok (.iconst 0, 1) := by decide +kernel
theorem dX1_becomeLike_48 : decode cX1_becomeLike 48 = .ok (.aload_n 0, 1) := by decide +kernel
theorem dX1_becomeLike_49 : decode cX1_becomeLike 49 = .ok (.getfield 21, 3) := by decide +kernel
theorem dX1_becomeLike_52 : decode cX1_becomeLike 52 = .ok (.iconst 0, 1) := by decide +kernel
theorem dX1_becomeLike_53 : decode cX1_becomeLike 53 = .ok (.bipush 40, 2) := by decide +kernel
theorem dX1_becomeLike_55 : decode cX1_becomeLike 55 = .ok (.invokestatic 53, 3) := by decide +kernel
theorem dX1_becomeLike_58 : decode cX1_becomeLike 58 = .ok (.aload_n 1, 1) := by decide +kernel
theorem dX1_becomeLike_59 : decode cX1_becomeLike 59 = .ok (.getfield 24, 3) := by decide +kernel
theorem dX1_becomeLike_62 : decode cX1_becomeLike 62 = .ok (.iconst 0, 1) := by decide +kernel
theorem dX1_becomeLike_63 : decode cX1_becomeLike 63 = .ok (.aload_n 0, 1) := by decide +kernel
theorem dX1_becomeLike_64 : decode cX1_becomeLike 64 = .ok (.getfield 24, 3) := by decide +kernel
theorem dX1_becomeLike_67 : decode cX1_becomeLike 67 = .ok (.iconst 0, 1) := by decide +kernel
theorem dX1_becomeLike_68 : decode cX1_becomeLike 68 = .ok (.bipush 16, 2) := by decide +kernel
theorem dX1_becomeLike_70 : decode cX1_becomeLike 70 = .ok (.invokestatic 53, 3) := by decide +kernel
theorem dX1_becomeLike_73 : decode cX1_becomeLike 73 = .ok (.aload_n 0, 1) := by decide +kernel
theorem dX1_becomeLike_74 : decode cX1_becomeLike 74 = .ok (.aload_n 1, 1) := by decide +kernel
theorem dX1_becomeLike_75 : decode cX1_becomeLike 75 = .ok (.getfield 38, 3) := by decide +kernel
theorem dX1_becomeLike_78 : decode cX1_becomeLike 78 = .ok (.putfield 38, 3) := by decide +kernel
theorem dX1_becomeLike_81 : decode cX1_becomeLike 81 = .ok (.aload_n 0, 1) := by decide +kernel
theorem dX1_becomeLike_82 : decode cX1_becomeLike 82 = .ok (.aload_n 1, 1) := by decide +kernel
theorem dX1_becomeLike_83 : decode cX1_becomeLike 83 = .ok (.getfield 41, 3) := by decide +kernel
theorem dX1_becomeLike_86 : decode cX1_becomeLike 86 = .ok (.putfield 41, 3) := by decide +kernel
theorem dX1_becomeLike_89 : decode cX1_becomeLike 89 = .ok (.aload_n 0, 1) := by decide +kernel
theorem dX1_becomeLike_90 : decode cX1_becomeLike 90 = .ok (.aload_n 1, 1) := by decide +kernel
theorem dX1_becomeLike_91 : decode cX1_becomeLike 91 = .ok (.getfield 44, 3) := by decide +kernel
theorem dX1_becomeLike_94 : decode cX1_becomeLike 94 = .ok (.putfield 44, 3) := by decide +kernel
theorem dX1_becomeLike_97 : decode cX1_becomeLike 97 = .ok (.aload_n 0, 1) := by decide +kernel
theorem dX1_becomeLike_98 : decode cX1_becomeLike 98 = .ok (.aload_n 1, 1) := by decide +kernel
theorem dX1_becomeLike_99 : decode cX1_becomeLike 99 = .ok (.getfield 47, 3) := by decide +kernel
theorem dX1_becomeLike_102 : decode cX1_becomeLike 102 = .ok (.putfield 47, 3) := by decide +kernel
theorem dX1_becomeLike_105 : decode cX1_becomeLike 105 = .ok (.aload_n 0, 1) := by decide +kernel
theorem dX1_becomeLike_106 : decode cX1_becomeLike 106 = .ok (.aload_n 1, 1) := by decide +kernel
theorem dX1_becomeLike_107 : decode cX1_becomeLike 107 = .ok (.getfield 34, 3) := by decide +kernel
theorem dX1_becomeLike_110 : decode cX1_becomeLike 110 = .ok (.putfield 34, 3) := by decide +kernel
theorem dX1_becomeLike_113 : decode cX1_becomeLike 113 = .ok (.aload_n 0, 1) := by decide +kernel
theorem dX1_becomeLike_114 : decode cX1_becomeLike 114 = .ok (.getfield 30, 3) := by decide +kernel
theorem dX1_becomeLike_117 : decode cX1_becomeLike 117 = .ok (.aload_n 1, 1) := by decide +kernel
theorem dX1_becomeLike_118 : decode cX1_becomeLike 118 = .ok (.getfield 30, 3) := by decide +kernel
theorem dX1_becomeLike_121 : decode cX1_becomeLike 121 = .ok (.invokevirtual 59, 3) := by decide +kernel
theorem dX1_becomeLike_124 : decode cX1_becomeLike 124 = .ok (.return_, 1) := by decide +kernel
theorem dX1_hasAngel_0 : decode cX1_hasAngel 0 = .ok (.iload_n 1, 1) := by decide +kernel
theorem dX1_hasAngel_1 : decode cX1_hasAngel 1 = .ok (.ifCond .lt 15, 3) := by decide +kernel
theorem dX1_hasAngel_4 : decode cX1_hasAngel 4 = .ok (.iload_n 1, 1) := by decide +kernel
theorem dX1_hasAngel_5 : decode cX1_hasAngel 5 = .ok (.aload_n 0, 1) := by decide +kernel
theorem dX1_hasAngel_6 : decode cX1_hasAngel 6 = .ok (.getfield 38, 3) := by decide +kernel
theorem dX1_hasAngel_9 : decode cX1_hasAngel 9 = .ok (.if_icmp .ge 7, 3) := by decide +kernel
theorem dX1_hasAngel_12 : decode cX1_hasAngel 12 = .ok (.iconst 1, 1) := by decide +kernel
theorem dX1_hasAngel_13 : decode cX1_hasAngel 13 = .ok (.goto 4, 3) := by decide +kernel
theorem dX1_hasAngel_16 : decode cX1_hasAngel 16 = .ok (.iconst 0, 1) := by decide +kernel
theorem dX1_hasAngel_17 : decode cX1_hasAngel 17 = .ok (.ireturn, 1) := by decide +kernel
theorem dX1_hasFigure_0 : decode cX1_hasFigure 0 = .ok (.iload_n 1, 1) := by decide +kernel
theorem dX1_hasFigure_1 : decode cX1_hasFigure 1 = .ok (.ifCond .lt 15, 3) := by decide +kernel
theorem dX1_hasFigure_4 : decode cX1_hasFigure 4 = .ok (.iload_n 1, 1) := by decide +kernel
theorem dX1_hasFigure_5 : decode cX1_hasFigure 5 = .ok (.aload_n 0, 1) := by decide +kernel
theorem dX1_hasFigure_6 : decode cX1_hasFigure 6 = .ok (.getfield 41, 3) := by decide +kernel
theorem dX1_hasFigure_9 : decode cX1_hasFigure 9 = .ok (.if_icmp .ge 7, 3) := by decide +kernel
theorem dX1_hasFigure_12 : decode cX1_hasFigure 12 = .ok (.iconst 1, 1) := by decide +kernel
theorem dX1_hasFigure_13 : decode cX1_hasFigure 13 = .ok (.goto 4, 3) := by decide +kernel
theorem dX1_hasFigure_16 : decode cX1_hasFigure 16 = .ok (.iconst 0, 1) := by decide +kernel
theorem dX1_hasFigure_17 : decode cX1_hasFigure 17 = .ok (.ireturn, 1) := by decide +kernel
theorem dX1_addAngel_0 : decode cX1_addAngel 0 = .ok (.aload_n 0, 1) := by decide +kernel
theorem dX1_addAngel_1 : decode cX1_addAngel 1 = .ok (.getfield 38, 3) := by decide +kernel
theorem dX1_addAngel_4 : decode cX1_addAngel 4 = .ok (.bipush 8, 2) := by decide +kernel
theorem dX1_addAngel_6 : decode cX1_addAngel 6 = .ok (.if_icmp .lt 6, 3) := by decide +kernel
theorem dX1_addAngel_9 : decode cX1_addAngel 9 = .ok (.bipush (-3), 2) := by decide +kernel
theorem dX1_addAngel_11 : decode cX1_addAngel 11 = .ok (.ireturn, 1) := by decide +kernel
theorem dX1_addAngel_12 : decode cX1_addAngel 12 = .ok (.aload_n 0, 1) := by decide +kernel
theorem dX1_addAngel_13 : decode cX1_addAngel 13 = .ok (.getfield 9, 3) := by decide +kernel
theorem dX1_addAngel_16 : decode cX1_addAngel 16 = .ok (.aload_n 0, 1) := by decide +kernel
theorem dX1_addAngel_17 : decode cX1_addAngel 17 = .ok (.getfield 38, 3) := by decide +kernel
theorem dX1_addAngel_20 : decode cX1_addAngel 20 = .ok (.iload_n 1, 1) := by decide +kernel
theorem dX1_addAngel_21 : decode cX1_addAngel 21 = .ok (.iastore, 1) := by decide +kernel
theorem dX1_addAngel_22 : decode cX1_addAngel 22 = .ok (.aload_n 0, 1) := by decide +kernel
theorem dX1_addAngel_23 : decode cX1_addAngel 23 = .ok (.dup, 1) := by decide +kernel
theorem dX1_addAngel_24 : decode cX1_addAngel 24 = .ok (.getfield 38, 3) := by decide +kernel
theorem dX1_addAngel_27 : decode cX1_addAngel 27 = .ok (.iconst 1, 1) := by decide +kernel
theorem dX1_addAngel_28 : decode cX1_addAngel 28 = .ok (.iadd, 1) := by decide +kernel
theorem dX1_addAngel_29 : decode cX1_addAngel 29 = .ok (.putfield 38, 3) := by decide +kernel
theorem dX1_addAngel_32 : decode cX1_addAngel 32 = .ok (.aload_n 0, 1) := by decide +kernel
theorem dX1_addAngel_33 : decode cX1_addAngel 33 = .ok (.getfield 38, 3) := by decide +kernel
theorem dX1_addAngel_36 : decode cX1_addAngel 36 = .ok (.iconst 1, 1) := by decide +kernel
theorem dX1_addAngel_37 : decode cX1_addAngel 37 = .ok (.isub, 1) := by decide +kernel
theorem dX1_addAngel_38 : decode cX1_addAngel 38 = .ok (.ireturn, 1) := by decide +kernel
theorem dX1_addFigure_0 : decode cX1_addFigure 0 = .ok (.aload_n 0, 1) := by decide +kernel
theorem dX1_addFigure_1 : decode cX1_addFigure 1 = .ok (.getfield 41, 3) := by decide +kernel
theorem dX1_addFigure_4 : decode cX1_addFigure 4 = .ok (.iconst 5, 1) := by decide +kernel
theorem dX1_addFigure_5 : decode cX1_addFigure 5 = .ok (.if_icmp .lt 6, 3) := by decide +kernel
theorem dX1_addFigure_8 : decode cX1_addFigure 8 = .ok (.bipush (-3), 2) := by decide +kernel
theorem dX1_addFigure_10 : decode cX1_addFigure 10 = .ok (.ireturn, 1) := by decide +kernel
theorem dX1_addFigure_11 : decode cX1_addFigure 11 = .ok (.aload_n 0, 1) := by decide +kernel
theorem dX1_addFigure_12 : decode cX1_addFigure 12 = .ok (.aload_n 0, 1) := by decide +kernel
theorem dX1_addFigure_13 : decode cX1_addFigure 13 = .ok (.getfield 41, 3) := by decide +kernel
theorem dX1_addFigure_16 : decode cX1_addFigure 16 = .ok (.iload_n 1, 1) := by decide +kernel
theorem dX1_addFigure_17 : decode cX1_addFigure 17 = .ok (.iload_n 2, 1) := by decide +kernel
theorem dX1_addFigure_18 : decode cX1_addFigure 18 = .ok (.invokevirtual 63, 3) := by decide +kernel
theorem dX1_addFigure_21 : decode cX1_addFigure 21 = .ok (.aload_n 0, 1) := by decide +kernel
theorem dX1_addFigure_22 : decode cX1_addFigure 22 = .ok (.dup, 1) := by decide +kernel
theorem dX1_addFigure_23 : decode cX1_addFigure 23 = .ok (.getfield 41, 3) := by decide +kernel
theorem dX1_addFigure_26 : decode cX1_addFigure 26 = .ok (.iconst 1, 1) := by decide +kernel
theorem dX1_addFigure_27 : decode cX1_addFigure 27 = .ok (.iadd, 1) := by decide +kernel
theorem dX1_addFigure_28 : decode cX1_addFigure 28 = .ok (.putfield 41, 3) := by decide +kernel
theorem dX1_addFigure_31 : decode cX1_addFigure 31 = .ok (.aload_n 0, 1) := by decide +kernel
theorem dX1_addFigure_32 : decode cX1_addFigure 32 = .ok (.getfield 41, 3) := by decide +kernel
theorem dX1_addFigure_35 : decode cX1_addFigure 35 = .ok (.iconst 1, 1) := by decide +kernel
theorem dX1_addFigure_36 : decode cX1_addFigure 36 = .ok (.isub, 1) := by decide +kernel
theorem dX1_addFigure_37 : decode cX1_addFigure 37 = .ok (.ireturn, 1) := by decide +kernel
theorem dX1_tell_0 : decode cX1_tell 0 = .ok (.aload_n 0, 1) := by decide +kernel
theorem dX1_tell_1 : decode cX1_tell 1 = .ok (.getfield 15, 3) := by decide +kernel
theorem dX1_tell_4 : decode cX1_tell 4 = .ok (.iload_n 1, 1) := by decide +kernel
theorem dX1_tell_5 : decode cX1_tell 5 = .ok (.iload_n 2, 1) := by decide +kernel
theorem dX1_tell_6 : decode cX1_tell 6 = .ok (.iastore, 1) := by decide +kernel
theorem dX1_tell_7 : decode cX1_tell 7 = .ok (.aload_n 0, 1) := by decide +kernel
theorem dX1_tell_8 : decode cX1_tell 8 = .ok (.getfield 18, 3) := by decide +kernel
theorem dX1_tell_11 : decode cX1_tell 11 = .ok (.iload_n 1, 1) := by decide +kernel
theorem dX1_tell_12 : decode cX1_tell 12 = .ok (.iload_n 3, 1) := by decide +kernel
theorem dX1_tell_13 : decode cX1_tell 13 = .ok (.iastore, 1) := by decide +kernel
theorem dX1_tell_14 : decode cX1_tell 14 = .ok (.iconst 0, 1) := by decide +kernel
theorem dX1_tell_15 : decode cX1_tell 15 = .ok (.istore 4, 2) := by decide +kernel
theorem dX1_tell_17 : decode cX1_tell 17 = .ok (.iload 4, 2) := by decide +kernel
theorem dX1_tell_19 : decode cX1_tell 19 = .ok (.bipush 8, 2) := by decide +kernel
theorem dX1_tell_21 : decode cX1_tell 21 = .ok (.if_icmp .ge 28, 3) := by decide +kernel
theorem dX1_tell_24 : decode cX1_tell 24 = .ok (.aload_n 0, 1) := by decide +kernel
theorem dX1_tell_25 : decode cX1_tell 25 = .ok (.getfield 21, 3) := by decide +kernel
theorem dX1_tell_28 : decode cX1_tell 28 = .ok (.iload_n 1, 1) := by decide +kernel
theorem dX1_tell_29 : decode cX1_tell 29 = .ok (.bipush 8, 2) := by decide +kernel
theorem dX1_tell_31 : decode cX1_tell 31 = .ok (.imul, 1) := by decide +kernel
theorem dX1_tell_32 : decode cX1_tell 32 = .ok (.iload 4, 2) := by decide +kernel
theorem dX1_tell_34 : decode cX1_tell 34 = .ok (.iadd, 1) := by decide +kernel
theorem dX1_tell_35 : decode cX1_tell 35 = .ok (.iload_n 2, 1) := by decide +kernel
theorem dX1_tell_36 : decode cX1_tell 36 = .ok (.iload_n 3, 1) := by decide +kernel
theorem dX1_tell_37 : decode cX1_tell 37 = .ok (.iload 4, 2) := by decide +kernel
theorem dX1_tell_39 : decode cX1_tell 39 = .ok (.invokestatic 67, 3) := by decide +kernel
theorem dX1_tell_42 : decode cX1_tell 42 = .ok (.iastore, 1) := by decide +kernel
theorem dX1_tell_43 : decode cX1_tell 43 = .ok (.iinc 4 1, 3) := by decide +kernel
theorem dX1_tell_46 : decode cX1_tell 46 = .ok (.goto (-29), 3) := by decide +kernel
theorem dX1_tell_49 : decode cX1_tell 49 = .ok (.return_, 1) := by decide +kernel
theorem dX1_addToTune_0 : decode cX1_addToTune 0 = .ok (.aload_n 0, 1) := by decide +kernel
theorem dX1_addToTune_1 : decode cX1_addToTune 1 = .ok (.getfield 44, 3) := by decide +kernel
theorem dX1_addToTune_4 : decode cX1_addToTune 4 = .ok (.bipush 16, 2) := by decide +kernel
theorem dX1_addToTune_6 : decode cX1_addToTune 6 = .ok (.if_icmp .lt 6, 3) := by decide +kernel
theorem dX1_addToTune_9 : decode cX1_addToTune 9 = .ok (.bipush (-3), 2) := by decide +kernel
theorem dX1_addToTune_11 : decode cX1_addToTune 11 = .ok (.ireturn, 1) := by decide +kernel
theorem dX1_addToTune_12 : decode cX1_addToTune 12 = .ok (.aload_n 0, 1) := by decide +kernel
theorem dX1_addToTune_13 : decode cX1_addToTune 13 = .ok (.getfield 24, 3) := by decide +kernel
theorem dX1_addToTune_16 : decode cX1_addToTune 16 = .ok (.aload_n 0, 1) := by decide +kernel
theorem dX1_addToTune_17 : decode cX1_addToTune 17 = .ok (.getfield 44, 3) := by decide +kernel
theorem dX1_addToTune_20 : decode cX1_addToTune 20 = .ok (.iload_n 1, 1) := by decide +kernel
theorem dX1_addToTune_21 : decode cX1_addToTune 21 = .ok (.iastore, 1) := by decide +kernel
theorem dX1_addToTune_22 : decode cX1_addToTune 22 = .ok (.aload_n 0, 1) := by decide +kernel
theorem dX1_addToTune_23 : decode cX1_addToTune 23 = .ok (.dup, 1) := by decide +kernel
theorem dX1_addToTune_24 : decode cX1_addToTune 24 = .ok (.getfield 44, 3) := by decide +kernel
theorem dX1_addToTune_27 : decode cX1_addToTune 27 = .ok (.iconst 1, 1) := by decide +kernel
theorem dX1_addToTune_28 : decode cX1_addToTune 28 = .ok (.iadd, 1) := by decide +kernel
theorem dX1_addToTune_29 : decode cX1_addToTune 29 = .ok (.putfield 44, 3) := by decide +kernel
theorem dX1_addToTune_32 : decode cX1_addToTune 32 = .ok (.aload_n 0, 1) := by decide +kernel
theorem dX1_addToTune_33 : decode cX1_addToTune 33 = .ok (.getfield 44, 3) := by decide +kernel
theorem dX1_addToTune_36 : decode cX1_addToTune 36 = .ok (.ireturn, 1) := by decide +kernel
theorem dX1_standing_0 : decode cX1_standing 0 = .ok (.iconst 0, 1) := by decide +kernel
theorem dX1_standing_1 : decode cX1_standing 1 = .ok (.istore_n 1, 1) := by decide +kernel
theorem dX1_standing_2 : decode cX1_standing 2 = .ok (.iconst 0, 1) := by decide +kernel
theorem dX1_standing_3 : decode cX1_standing 3 = .ok (.istore_n 2, 1) := by decide +kernel
theorem dX1_standing_4 : decode cX1_standing 4 = .ok (.iload_n 2, 1) := by decide +kernel
theorem dX1_standing_5 : decode cX1_standing 5 = .ok (.aload_n 0, 1) := by decide +kernel
theorem dX1_standing_6 : decode cX1_standing 6 = .ok (.getfield 38, 3) := by decide +kernel
theorem dX1_standing_9 : decode cX1_standing 9 = .ok (.if_icmp .ge 21, 3) := by decide +kernel
theorem dX1_standing_12 : decode cX1_standing 12 = .ok (.iload_n 1, 1) := by decide +kernel
theorem dX1_standing_13 : decode cX1_standing 13 = .ok (.aload_n 0, 1) := by decide +kernel
theorem dX1_standing_14 : decode cX1_standing 14 = .ok (.getfield 9, 3) := by decide +kernel
theorem dX1_standing_17 : decode cX1_standing 17 = .ok (.iload_n 2, 1) := by decide +kernel
theorem dX1_standing_18 : decode cX1_standing 18 = .ok (.iaload, 1) := by decide +kernel
theorem dX1_standing_19 : decode cX1_standing 19 = .ok (.invokestatic 71, 3) := by decide +kernel
theorem dX1_standing_22 : decode cX1_standing 22 = .ok (.ior, 1) := by decide +kernel
theorem dX1_standing_23 : decode cX1_standing 23 = .ok (.istore_n 1, 1) := by decide +kernel
theorem dX1_standing_24 : decode cX1_standing 24 = .ok (.iinc 2 1, 3) := by decide +kernel
theorem dX1_standing_27 : decode cX1_standing 27 = .ok (.goto (-23), 3) := by decide +kernel
theorem dX1_standing_30 : decode cX1_standing 30 = .ok (.iload_n 1, 1) := by decide +kernel
theorem dX1_standing_31 : decode cX1_standing 31 = .ok (.ireturn, 1) := by decide +kernel
theorem dX1_goneOnes_0 : decode cX1_goneOnes 0 = .ok (.iconst 0, 1) := by decide +kernel
theorem dX1_goneOnes_1 : decode cX1_goneOnes 1 = .ok (.istore_n 1, 1) := by decide +kernel
theorem dX1_goneOnes_2 : decode cX1_goneOnes 2 = .ok (.iconst 0, 1) := by decide +kernel
theorem dX1_goneOnes_3 : decode cX1_goneOnes 3 = .ok (.istore_n 2, 1) := by decide +kernel
theorem dX1_goneOnes_4 : decode cX1_goneOnes 4 = .ok (.iload_n 2, 1) := by decide +kernel
theorem dX1_goneOnes_5 : decode cX1_goneOnes 5 = .ok (.aload_n 0, 1) := by decide +kernel
theorem dX1_goneOnes_6 : decode cX1_goneOnes 6 = .ok (.getfield 38, 3) := by decide +kernel
theorem dX1_goneOnes_9 : decode cX1_goneOnes 9 = .ok (.if_icmp .ge 26, 3) := by decide +kernel
theorem dX1_goneOnes_12 : decode cX1_goneOnes 12 = .ok (.aload_n 0, 1) := by decide +kernel
theorem dX1_goneOnes_13 : decode cX1_goneOnes 13 = .ok (.getfield 9, 3) := by decide +kernel
theorem dX1_goneOnes_16 : decode cX1_goneOnes 16 = .ok (.iload_n 2, 1) := by decide +kernel
theorem dX1_goneOnes_17 : decode cX1_goneOnes 17 = .ok (.iaload, 1) := by decide +kernel
theorem dX1_goneOnes_18 : decode cX1_goneOnes 18 = .ok (.bipush (-4), 2) := by decide +kernel
theorem dX1_goneOnes_20 : decode cX1_goneOnes 20 = .ok (.if_icmp .ne 9, 3) := by decide +kernel
theorem dX1_goneOnes_23 : decode cX1_goneOnes 23 = .ok (.iload_n 1, 1) := by decide +kernel
theorem dX1_goneOnes_24 : decode cX1_goneOnes 24 = .ok (.iconst 1, 1) := by decide +kernel
theorem dX1_goneOnes_25 : decode cX1_goneOnes 25 = .ok (.iload_n 2, 1) := by decide +kernel
theorem dX1_goneOnes_26 : decode cX1_goneOnes 26 = .ok (.ishl, 1) := by decide +kernel
theorem dX1_goneOnes_27 : decode cX1_goneOnes 27 = .ok (.ior, 1) := by decide +kernel
theorem dX1_goneOnes_28 : decode cX1_goneOnes 28 = .ok (.istore_n 1, 1) := by decide +kernel
theorem dX1_goneOnes_29 : decode cX1_goneOnes 29 = .ok (.iinc 2 1, 3) := by decide +kernel
theorem dX1_goneOnes_32 : decode cX1_goneOnes 32 = .ok (.goto (-28), 3) := by decide +kernel
theorem dX1_goneOnes_35 : decode cX1_goneOnes 35 = .ok (.iload_n 1, 1) := by decide +kernel
theorem dX1_goneOnes_36 : decode cX1_goneOnes 36 = .ok (.ireturn, 1) := by decide +kernel
theorem dX1_ledBy_0 : decode cX1_ledBy 0 = .ok (.aload_n 0, 1) := by decide +kernel
theorem dX1_ledBy_1 : decode cX1_ledBy 1 = .ok (.getfield 21, 3) := by decide +kernel
theorem dX1_ledBy_4 : decode cX1_ledBy 4 = .ok (.iload_n 1, 1) := by decide +kernel
theorem dX1_ledBy_5 : decode cX1_ledBy 5 = .ok (.bipush 8, 2) := by decide +kernel
theorem dX1_ledBy_7 : decode cX1_ledBy 7 = .ok (.imul, 1) := by decide +kernel
theorem dX1_ledBy_8 : decode cX1_ledBy 8 = .ok (.iload_n 2, 1) := by decide +kernel
theorem dX1_ledBy_9 : decode cX1_ledBy 9 = .ok (.iadd, 1) := by decide +kernel
theorem dX1_ledBy_10 : decode cX1_ledBy 10 = .ok (.iaload, 1) := by decide +kernel
theorem dX1_ledBy_11 : decode cX1_ledBy 11 = .ok (.ireturn, 1) := by decide +kernel
theorem dX1_setLedBy_0 : decode cX1_setLedBy 0 = .ok (.iconst 0, 1) := by decide +kernel
theorem dX1_setLedBy_1 : decode cX1_setLedBy 1 = .ok (.istore_n 3, 1) := by decide +kernel
theorem dX1_setLedBy_2 : decode cX1_setLedBy 2 = .ok (.iconst 0, 1) := by decide +kernel
theorem dX1_setLedBy_3 : decode cX1_setLedBy 3 = .ok (.istore 4, 2) := by decide +kernel
theorem dX1_setLedBy_5 : decode cX1_setLedBy 5 = .ok (.iload 4, 2) := by decide +kernel
theorem dX1_setLedBy_7 : decode cX1_setLedBy 7 = .ok (.bipush 8, 2) := by decide +kernel
theorem dX1_setLedBy_9 : decode cX1_setLedBy 9 = .ok (.if_icmp .ge 31, 3) := by decide +kernel
theorem dX1_setLedBy_12 : decode cX1_setLedBy 12 = .ok (.iload_n 2, 1) := by decide +kernel
theorem dX1_setLedBy_13 : decode cX1_setLedBy 13 = .ok (.iload 4, 2) := by decide +kernel
theorem dX1_setLedBy_15 : decode cX1_setLedBy 15 = .ok (.invokestatic 75, 3) := by decide +kernel
theorem dX1_setLedBy_18 : decode cX1_setLedBy 18 = .ok (.ifCond .eq 16, 3) := by decide +kernel
theorem dX1_setLedBy_21 : decode cX1_setLedBy 21 = .ok (.iload_n 3, 1) := by decide +kernel
theorem dX1_setLedBy_22 : decode cX1_setLedBy 22 = .ok (.aload_n 0, 1) := by decide +kernel
theorem dX1_setLedBy_23 : decode cX1_setLedBy 23 = .ok (.iload_n 1, 1) := by decide +kernel
theorem dX1_setLedBy_24 : decode cX1_setLedBy 24 = .ok (.iload 4, 2) := by decide +kernel
theorem dX1_setLedBy_26 : decode cX1_setLedBy 26 = .ok (.invokevirtual 79, 3) := by decide +kernel
theorem dX1_setLedBy_29 : decode cX1_setLedBy 29 = .ok (.invokestatic 71, 3) := by decide +kernel
theorem dX1_setLedBy_32 : decode cX1_setLedBy 32 = .ok (.ior, 1) := by decide +kernel
theorem dX1_setLedBy_33 : decode cX1_setLedBy 33 = .ok (.istore_n 3, 1) := by decide +kernel
theorem dX1_setLedBy_34 : decode cX1_setLedBy 34 = .ok (.iinc 4 1, 3) := by decide +kernel
theorem dX1_setLedBy_37 : decode cX1_setLedBy 37 = .ok (.goto (-32), 3) := by decide +kernel
theorem dX1_setLedBy_40 : decode cX1_setLedBy 40 = .ok (.iload_n 3, 1) := by decide +kernel
theorem dX1_setLedBy_41 : decode cX1_setLedBy 41 = .ok (.ireturn, 1) := by decide +kernel
theorem dX1_orderOf_0 : decode cX1_orderOf 0 = .ok (.iconst 1, 1) := by decide +kernel
theorem dX1_orderOf_1 : decode cX1_orderOf 1 = .ok (.istore_n 2, 1) := by decide +kernel
theorem dX1_orderOf_2 : decode cX1_orderOf 2 = .ok (.iconst 0, 1) := by decide +kernel
theorem dX1_orderOf_3 : decode cX1_orderOf 3 = .ok (.istore_n 3, 1) := by decide +kernel
theorem dX1_orderOf_4 : decode cX1_orderOf 4 = .ok (.iload_n 3, 1) := by decide +kernel
theorem dX1_orderOf_5 : decode cX1_orderOf 5 = .ok (.bipush 8, 2) := by decide +kernel
theorem dX1_orderOf_7 : decode cX1_orderOf 7 = .ok (.if_icmp .ge 38, 3) := by decide +kernel
theorem dX1_orderOf_10 : decode cX1_orderOf 10 = .ok (.aload_n 0, 1) := by decide +kernel
theorem dX1_orderOf_11 : decode cX1_orderOf 11 = .ok (.iload_n 1, 1) := by decide +kernel
theorem dX1_orderOf_12 : decode cX1_orderOf 12 = .ok (.iload_n 3, 1) := by decide +kernel
theorem dX1_orderOf_13 : decode cX1_orderOf 13 = .ok (.invokevirtual 83, 3) := by decide +kernel
theorem dX1_orderOf_16 : decode cX1_orderOf 16 = .ok (.istore 4, 2) := by decide +kernel
theorem dX1_orderOf_18 : decode cX1_orderOf 18 = .ok (.iload_n 2, 1) := by decide +kernel
theorem dX1_orderOf_19 : decode cX1_orderOf 19 = .ok (.iload 4, 2) := by decide +kernel
theorem dX1_orderOf_21 : decode cX1_orderOf 21 = .ok (.invokestatic 86, 3) := by decide +kernel
theorem dX1_orderOf_24 : decode cX1_orderOf 24 = .ok (.istore 5, 2) := by decide +kernel
theorem dX1_orderOf_26 : decode cX1_orderOf 26 = .ok (.iload 5, 2) := by decide +kernel
theorem dX1_orderOf_28 : decode cX1_orderOf 28 = .ok (.ifCond .le 11, 3) := by decide +kernel
theorem dX1_orderOf_31 : decode cX1_orderOf 31 = .ok (.iload_n 2, 1) := by decide +kernel
theorem dX1_orderOf_32 : decode cX1_orderOf 32 = .ok (.iload 5, 2) := by decide +kernel
theorem dX1_orderOf_34 : decode cX1_orderOf 34 = .ok (.idiv, 1) := by decide +kernel
theorem dX1_orderOf_35 : decode cX1_orderOf 35 = .ok (.iload 4, 2) := by decide +kernel
theorem dX1_orderOf_37 : decode cX1_orderOf 37 = .ok (.imul, 1) := by decide +kernel
theorem dX1_orderOf_38 : decode cX1_orderOf 38 = .ok (.istore_n 2, 1) := by decide +kernel
theorem dX1_orderOf_39 : decode cX1_orderOf 39 = .ok (.iinc 3 1, 3) := by decide +kernel
theorem dX1_orderOf_42 : decode cX1_orderOf 42 = .ok (.goto (-38), 3) := by decide +kernel
theorem dX1_orderOf_45 : decode cX1_orderOf 45 = .ok (.iload_n 2, 1) := by decide +kernel
theorem dX1_orderOf_46 : decode cX1_orderOf 46 = .ok (.ireturn, 1) := by decide +kernel
theorem dX1_turnsTillBack_0 : decode cX1_turnsTillBack 0 = .ok (.iconst 1, 1) := by decide +kernel
theorem dX1_turnsTillBack_1 : decode cX1_turnsTillBack 1 = .ok (.istore_n 3, 1) := by decide +kernel
theorem dX1_turnsTillBack_2 : decode cX1_turnsTillBack 2 = .ok (.aload_n 0, 1) := by decide +kernel
theorem dX1_turnsTillBack_3 : decode cX1_turnsTillBack 3 = .ok (.iload_n 1, 1) := by decide +kernel
theorem dX1_turnsTillBack_4 : decode cX1_turnsTillBack 4 = .ok (.iload_n 2, 1) := by decide +kernel
theorem dX1_turnsTillBack_5 : decode cX1_turnsTillBack 5 = .ok (.invokevirtual 79, 3) := by decide +kernel
theorem dX1_turnsTillBack_8 : decode cX1_turnsTillBack 8 = .ok (.istore 4, 2) := by decide +kernel
theorem dX1_turnsTillBack_10 : decode cX1_turnsTillBack 10 = .ok (.iload_n 3, 1) := by decide +kernel
theorem dX1_turnsTillBack_11 : decode cX1_turnsTillBack 11 = .ok (.bipush 8, 2) := by decide +kernel
theorem dX1_turnsTillBack_13 : decode cX1_turnsTillBack 13 = .ok (.if_icmp .ge 24, 3) := by decide +kernel
theorem dX1_turnsTillBack_16 : decode cX1_turnsTillBack 16 = .ok (.iload 4, 2) := by decide +kernel
theorem dX1_turnsTillBack_18 : decode cX1_turnsTillBack 18 = .ok (.iload_n 2, 1) := by decide +kernel
theorem dX1_turnsTillBack_19 : decode cX1_turnsTillBack 19 = .ok (.if_icmp .eq 18, 3) := by decide +kernel
theorem dX1_turnsTillBack_22 : decode cX1_turnsTillBack 22 = .ok (.aload_n 0, 1) := by decide +kernel
theorem dX1_turnsTillBack_23 : decode cX1_turnsTillBack 23 = .ok (.iload_n 1, 1) := by decide +kernel
theorem dX1_turnsTillBack_24 : decode cX1_turnsTillBack 24 = .ok (.iload 4, 2) := by decide +kernel
theorem dX1_turnsTillBack_26 : decode cX1_turnsTillBack 26 = .ok (.invokevirtual 79, 3) := by decide +kernel
theorem dX1_turnsTillBack_29 : decode cX1_turnsTillBack 29 = .ok (.istore 4, 2) := by decide +kernel
theorem dX1_turnsTillBack_31 : decode cX1_turnsTillBack 31 = .ok (.iinc 3 1, 3) := by decide +kernel
theorem dX1_turnsTillBack_34 : decode cX1_turnsTillBack 34 = .ok (.goto (-24), 3) := by decide +kernel
theorem dX1_turnsTillBack_37 : decode cX1_turnsTillBack 37 = .ok (.iload_n 3, 1) := by decide +kernel
theorem dX1_turnsTillBack_38 : decode cX1_turnsTillBack 38 = .ok (.ireturn, 1) := by decide +kernel
theorem dX1_keptBy_0 : decode cX1_keptBy 0 = .ok (.iconst 0, 1) := by decide +kernel
theorem dX1_keptBy_1 : decode cX1_keptBy 1 = .ok (.istore_n 2, 1) := by decide +kernel
theorem dX1_keptBy_2 : decode cX1_keptBy 2 = .ok (.iconst 0, 1) := by decide +kernel
theorem dX1_keptBy_3 : decode cX1_keptBy 3 = .ok (.istore_n 3, 1) := by decide +kernel
theorem dX1_keptBy_4 : decode cX1_keptBy 4 = .ok (.iload_n 3, 1) := by decide +kernel
theorem dX1_keptBy_5 : decode cX1_keptBy 5 = .ok (.bipush 8, 2) := by decide +kernel
theorem dX1_keptBy_7 : decode cX1_keptBy 7 = .ok (.if_icmp .ge 26, 3) := by decide +kernel
theorem dX1_keptBy_10 : decode cX1_keptBy 10 = .ok (.aload_n 0, 1) := by decide +kernel
theorem dX1_keptBy_11 : decode cX1_keptBy 11 = .ok (.iload_n 1, 1) := by decide +kernel
theorem dX1_keptBy_12 : decode cX1_keptBy 12 = .ok (.iload_n 3, 1) := by decide +kernel
theorem dX1_keptBy_13 : decode cX1_keptBy 13 = .ok (.invokevirtual 79, 3) := by decide +kernel
theorem dX1_keptBy_16 : decode cX1_keptBy 16 = .ok (.iload_n 3, 1) := by decide +kernel
theorem dX1_keptBy_17 : decode cX1_keptBy 17 = .ok (.if_icmp .ne 10, 3) := by decide +kernel
theorem dX1_keptBy_20 : decode cX1_keptBy 20 = .ok (.iload_n 2, 1) := by decide +kernel
theorem dX1_keptBy_21 : decode cX1_keptBy 21 = .ok (.iload_n 3, 1) := by decide +kernel
theorem dX1_keptBy_22 : decode cX1_keptBy 22 = .ok (.invokestatic 71, 3) := by decide +kernel
theorem dX1_keptBy_25 : decode cX1_keptBy 25 = .ok (.ior, 1) := by decide +kernel
theorem dX1_keptBy_26 : decode cX1_keptBy 26 = .ok (.istore_n 2, 1) := by decide +kernel
theorem dX1_keptBy_27 : decode cX1_keptBy 27 = .ok (.iinc 3 1, 3) := by decide +kernel
theorem dX1_keptBy_30 : decode cX1_keptBy 30 = .ok (.goto (-26), 3) := by decide +kernel
theorem dX1_keptBy_33 : decode cX1_keptBy 33 = .ok (.iload_n 2, 1) := by decide +kernel
theorem dX1_keptBy_34 : decode cX1_keptBy 34 = .ok (.ireturn, 1) := by decide +kernel
theorem dX1_leastLike_0 : decode cX1_leastLike 0 = .ok (.iconst 0, 1) := by decide +kernel
theorem dX1_leastLike_1 : decode cX1_leastLike 1 = .ok (.istore_n 2, 1) := by decide +kernel
theorem dX1_leastLike_2 : decode cX1_leastLike 2 = .ok (.iload_n 2, 1) := by decide +kernel
theorem dX1_leastLike_3 : decode cX1_leastLike 3 = .ok (.iload_n 1, 1) := by decide +kernel
theorem dX1_leastLike_4 : decode cX1_leastLike 4 = .ok (.if_icmp .ge 20, 3) := by decide +kernel
theorem dX1_leastLike_7 : decode cX1_leastLike 7 = .ok (.aload_n 0, 1) := by decide +kernel
theorem dX1_leastLike_8 : decode cX1_leastLike 8 = .ok (.iload_n 2, 1) := by decide +kernel
theorem dX1_leastLike_9 : decode cX1_leastLike 9 = .ok (.iload_n 1, 1) := by decide +kernel
theorem dX1_leastLike_10 : decode cX1_leastLike 10 = .ok (.invokevirtual 89, 3) := by decide +kernel
theorem dX1_leastLike_13 : decode cX1_leastLike 13 = .ok (.ifCond .eq 5, 3) := by decide +kernel
theorem dX1_leastLike_16 : decode cX1_leastLike 16 = .ok (.iload_n 2, 1) := by decide +kernel
theorem dX1_leastLike_17 : decode cX1_leastLike 17 = .ok (.ireturn, 1) := by decide +kernel
theorem dX1_leastLike_18 : decode cX1_leastLike 18 = .ok (.iinc 2 1, 3) := by decide +kernel
theorem dX1_leastLike_21 : decode cX1_leastLike 21 = .ok (.goto (-19), 3) := by decide +kernel
theorem dX1_leastLike_24 : decode cX1_leastLike 24 = .ok (.iload_n 1, 1) := by decide +kernel
theorem dX1_leastLike_25 : decode cX1_leastLike 25 = .ok (.ireturn, 1) := by decide +kernel
theorem dX1_leadAlike_0 : decode cX1_leadAlike 0 = .ok (.iconst 0, 1) := by decide +kernel
theorem dX1_leadAlike_1 : decode cX1_leadAlike 1 = .ok (.istore_n 3, 1) := by decide +kernel
theorem dX1_leadAlike_2 : decode cX1_leadAlike 2 = .ok (.iload_n 3, 1) := by decide +kernel
theorem dX1_leadAlike_3 : decode cX1_leadAlike 3 = .ok (.bipush 8, 2) := by decide +kernel
theorem dX1_leadAlike_5 : decode cX1_leadAlike 5 = .ok (.if_icmp .ge 26, 3) := by decide +kernel
theorem dX1_leadAlike_8 : decode cX1_leadAlike 8 = .ok (.aload_n 0, 1) := by decide +kernel
theorem dX1_leadAlike_9 : decode cX1_leadAlike 9 = .ok (.iload_n 1, 1) := by decide +kernel
theorem dX1_leadAlike_10 : decode cX1_leadAlike 10 = .ok (.iload_n 3, 1) := by decide +kernel
theorem dX1_leadAlike_11 : decode cX1_leadAlike 11 = .ok (.invokevirtual 79, 3) := by decide +kernel
theorem dX1_leadAlike_14 : decode cX1_leadAlike 14 = .ok (.aload_n 0, 1) := by decide +kernel
theorem dX1_leadAlike_15 : decode cX1_leadAlike 15 = .ok (.iload_n 2, 1) := by decide +kernel
theorem dX1_leadAlike_16 : decode cX1_leadAlike 16 = .ok (.iload_n 3, 1) := by decide +kernel
theorem dX1_leadAlike_17 : decode cX1_leadAlike 17 = .ok (.invokevirtual 79, 3) := by decide +kernel
theorem dX1_leadAlike_20 : decode cX1_leadAlike 20 = .ok (.if_icmp .eq 5, 3) := by decide +kernel
theorem dX1_leadAlike_23 : decode cX1_leadAlike 23 = .ok (.iconst 0, 1) := by decide +kernel
theorem dX1_leadAlike_24 : decode cX1_leadAlike 24 = .ok (.ireturn, 1) := by decide +kernel
theorem dX1_leadAlike_25 : decode cX1_leadAlike 25 = .ok (.iinc 3 1, 3) := by decide +kernel
theorem dX1_leadAlike_28 : decode cX1_leadAlike 28 = .ok (.goto (-26), 3) := by decide +kernel
theorem dX1_leadAlike_31 : decode cX1_leadAlike 31 = .ok (.iconst 1, 1) := by decide +kernel
theorem dX1_leadAlike_32 : decode cX1_leadAlike 32 = .ok (.ireturn, 1) := by decide +kernel
theorem dX1_figureOfBeat_0 : decode cX1_figureOfBeat 0 = .ok (.aload_n 0, 1) := by decide +kernel
theorem dX1_figureOfBeat_1 : decode cX1_figureOfBeat 1 = .ok (.getfield 44, 3) := by decide +kernel
theorem dX1_figureOfBeat_4 : decode cX1_figureOfBeat 4 = .ok (.ifCond .gt 8, 3) := by decide +kernel
theorem dX1_figureOfBeat_7 : decode cX1_figureOfBeat 7 = .ok (.bipush (-4), 2) := by decide +kernel
theorem dX1_figureOfBeat_9 : decode cX1_figureOfBeat 9 = .ok (.goto 14, 3) := by decide +kernel
theorem dX1_figureOfBeat_12 : decode cX1_figureOfBeat 12 = .ok (.aload_n 0, 1) := by decide +kernel
theorem dX1_figureOfBeat_13 : decode cX1_figureOfBeat 13 = .ok (.getfield 24, 3) := by decide +kernel
theorem dX1_figureOfBeat_16 : decode cX1_figureOfBeat 16 = .ok (.iload_n 1, 1) := by decide +kernel
theorem dX1_figureOfBeat_17 : decode cX1_figureOfBeat 17 = .ok (.aload_n 0, 1) := by decide +kernel
theorem dX1_figureOfBeat_18 : decode cX1_figureOfBeat 18 = .ok (.getfield 44, 3) := by decide +kernel
theorem dX1_figureOfBeat_21 : decode cX1_figureOfBeat 21 = .ok (.irem, 1) := by decide +kernel
theorem dX1_figureOfBeat_22 : decode cX1_figureOfBeat 22 = .ok (.iaload, 1) := by decide +kernel
theorem dX1_figureOfBeat_23 : decode cX1_figureOfBeat 23 = .ok (.ireturn, 1) := by decide +kernel
theorem dX1_goesOn_0 : decode cX1_goesOn 0 = .ok (.aload_n 0, 1) := by decide +kernel
theorem dX1_goesOn_1 : decode cX1_goesOn 1 = .ok (.getfield 44, 3) := by decide +kernel
theorem dX1_goesOn_4 : decode cX1_goesOn 4 = .ok (.ifCond .le 9, 3) := by decide +kernel
theorem dX1_goesOn_7 : decode cX1_goesOn 7 = .ok (.iload_n 1, 1) := by decide +kernel
theorem dX1_goesOn_8 : decode cX1_goesOn 8 = .ok (.bipush (-4), 2) := by decide +kernel
theorem dX1_goesOn_10 : decode cX1_goesOn 10 = .ok (.if_icmp .ne 5, 3) := by decide +kernel
theorem dX1_goesOn_13 : decode cX1_goesOn 13 = .ok (.iload_n 1, 1) := by decide +kernel
theorem dX1_goesOn_14 : decode cX1_goesOn 14 = .ok (.ireturn, 1) := by decide +kernel
theorem dX1_goesOn_15 : decode cX1_goesOn 15 = .ok (.aload_n 0, 1) := by decide +kernel
theorem dX1_goesOn_16 : decode cX1_goesOn 16 = .ok (.aload_n 0, 1) := by decide +kernel
theorem dX1_goesOn_17 : decode cX1_goesOn 17 = .ok (.getfield 24, 3) := by decide +kernel
theorem dX1_goesOn_20 : decode cX1_goesOn 20 = .ok (.iload_n 2, 1) := by decide +kernel
theorem dX1_goesOn_21 : decode cX1_goesOn 21 = .ok (.aload_n 0, 1) := by decide +kernel
theorem dX1_goesOn_22 : decode cX1_goesOn 22 = .ok (.getfield 44, 3) := by decide +kernel
theorem dX1_goesOn_25 : decode cX1_goesOn 25 = .ok (.irem, 1) := by decide +kernel
theorem dX1_goesOn_26 : decode cX1_goesOn 26 = .ok (.iaload, 1) := by decide +kernel
theorem dX1_goesOn_27 : decode cX1_goesOn 27 = .ok (.iload_n 1, 1) := by decide +kernel
theorem dX1_goesOn_28 : decode cX1_goesOn 28 = .ok (.invokevirtual 79, 3) := by decide +kernel
theorem dX1_goesOn_31 : decode cX1_goesOn 31 = .ok (.ireturn, 1) := by decide +kernel
theorem dX1_dance_0 : decode cX1_dance 0 = .ok (.iconst 0, 1) := by decide +kernel
theorem dX1_dance_1 : decode cX1_dance 1 = .ok (.istore_n 1, 1) := by decide +kernel
theorem dX1_dance_2 : decode cX1_dance 2 = .ok (.iload_n 1, 1) := by decide +kernel
theorem dX1_dance_3 : decode cX1_dance 3 = .ok (.aload_n 0, 1) := by decide +kernel
theorem dX1_dance_4 : decode cX1_dance 4 = .ok (.getfield 38, 3) := by decide +kernel
theorem dX1_dance_7 : decode cX1_dance 7 = .ok (.if_icmp .ge 29, 3) := by decide +kernel
theorem dX1_dance_10 : decode cX1_dance 10 = .ok (.aload_n 0, 1) := by decide +kernel
theorem dX1_dance_11 : decode cX1_dance 11 = .ok (.getfield 9, 3) := by decide +kernel
theorem dX1_dance_14 : decode cX1_dance 14 = .ok (.iload_n 1, 1) := by decide +kernel
theorem dX1_dance_15 : decode cX1_dance 15 = .ok (.aload_n 0, 1) := by decide +kernel
theorem dX1_dance_16 : decode cX1_dance 16 = .ok (.aload_n 0, 1) := by decide +kernel
theorem dX1_dance_17 : decode cX1_dance 17 = .ok (.getfield 9, 3) := by decide +kernel
theorem dX1_dance_20 : decode cX1_dance 20 = .ok (.iload_n 1, 1) := by decide +kernel
theorem dX1_dance_21 : decode cX1_dance 21 = .ok (.iaload, 1) := by decide +kernel
theorem dX1_dance_22 : decode cX1_dance 22 = .ok (.aload_n 0, 1) := by decide +kernel
theorem dX1_dance_23 : decode cX1_dance 23 = .ok (.getfield 47, 3) := by decide +kernel
theorem dX1_dance_26 : decode cX1_dance 26 = .ok (.invokevirtual 92, 3) := by decide +kernel
theorem dX1_dance_29 : decode cX1_dance 29 = .ok (.iastore, 1) := by decide +kernel
theorem dX1_dance_30 : decode cX1_dance 30 = .ok (.iinc 1 1, 3) := by decide +kernel
theorem dX1_dance_33 : decode cX1_dance 33 = .ok (.goto (-31), 3) := by decide +kernel
theorem dX1_dance_36 : decode cX1_dance 36 = .ok (.aload_n 0, 1) := by decide +kernel
theorem dX1_dance_37 : decode cX1_dance 37 = .ok (.dup, 1) := by decide +kernel
theorem dX1_dance_38 : decode cX1_dance 38 = .ok (.getfield 47, 3) := by decide +kernel
theorem dX1_dance_41 : decode cX1_dance 41 = .ok (.iconst 1, 1) := by decide +kernel
theorem dX1_dance_42 : decode cX1_dance 42 = .ok (.iadd, 1) := by decide +kernel
theorem dX1_dance_43 : decode cX1_dance 43 = .ok (.putfield 47, 3) := by decide +kernel
theorem dX1_dance_46 : decode cX1_dance 46 = .ok (.return_, 1) := by decide +kernel
theorem dX1_blow_0 : decode cX1_blow 0 = .ok (.iconst 0, 1) := by decide +kernel
theorem dX1_blow_1 : decode cX1_blow 1 = .ok (.istore_n 2, 1) := by decide +kernel
theorem dX1_blow_2 : decode cX1_blow 2 = .ok (.iload_n 2, 1) := by decide +kernel
theorem dX1_blow_3 : decode cX1_blow 3 = .ok (.aload_n 0, 1) := by decide +kernel
theorem dX1_blow_4 : decode cX1_blow 4 = .ok (.getfield 38, 3) := by decide +kernel
theorem dX1_blow_7 : decode cX1_blow 7 = .ok (.if_icmp .ge 37, 3) := by decide +kernel
theorem dX1_blow_10 : decode cX1_blow 10 = .ok (.aload_n 0, 1) := by decide +kernel
theorem dX1_blow_11 : decode cX1_blow 11 = .ok (.getfield 9, 3) := by decide +kernel
theorem dX1_blow_14 : decode cX1_blow 14 = .ok (.iload_n 2, 1) := by decide +kernel
theorem dX1_blow_15 : decode cX1_blow 15 = .ok (.iaload, 1) := by decide +kernel
theorem dX1_blow_16 : decode cX1_blow 16 = .ok (.bipush (-4), 2) := by decide +kernel
theorem dX1_blow_18 : decode cX1_blow 18 = .ok (.if_icmp .eq 20, 3) := by decide +kernel
theorem dX1_blow_21 : decode cX1_blow 21 = .ok (.aload_n 0, 1) := by decide +kernel
theorem dX1_blow_22 : decode cX1_blow 22 = .ok (.getfield 9, 3) := by decide +kernel
theorem dX1_blow_25 : decode cX1_blow 25 = .ok (.iload_n 2, 1) := by decide +kernel
theorem dX1_blow_26 : decode cX1_blow 26 = .ok (.aload_n 0, 1) := by decide +kernel
theorem dX1_blow_27 : decode cX1_blow 27 = .ok (.getfield 9, 3) := by decide +kernel
theorem dX1_blow_30 : decode cX1_blow 30 = .ok (.iload_n 2, 1) := by decide +kernel
theorem dX1_blow_31 : decode cX1_blow 31 = .ok (.iaload, 1) := by decide +kernel
theorem dX1_blow_32 : decode cX1_blow 32 = .ok (.iload_n 1, 1) := by decide +kernel
theorem dX1_blow_33 : decode cX1_blow 33 = .ok (.iadd, 1) := by decide +kernel
theorem dX1_blow_34 : decode cX1_blow 34 = .ok (.invokestatic 95, 3) := by decide +kernel
theorem dX1_blow_37 : decode cX1_blow 37 = .ok (.iastore, 1) := by decide +kernel
theorem dX1_blow_38 : decode cX1_blow 38 = .ok (.iinc 2 1, 3) := by decide +kernel
theorem dX1_blow_41 : decode cX1_blow 41 = .ok (.goto (-39), 3) := by decide +kernel
theorem dX1_blow_44 : decode cX1_blow 44 = .ok (.return_, 1) := by decide +kernel
theorem dX1_drawAndBlow_0 : decode cX1_drawAndBlow 0 = .ok (.aload_n 0, 1) := by decide +kernel
theorem dX1_drawAndBlow_1 : decode cX1_drawAndBlow 1 = .ok (.aload_n 0, 1) := by decide +kernel
theorem dX1_drawAndBlow_2 : decode cX1_drawAndBlow 2 = .ok (.getfield 34, 3) := by decide +kernel
theorem dX1_drawAndBlow_5 : decode cX1_drawAndBlow 5 = .ok (.i2l, 1) := by decide +kernel
theorem dX1_drawAndBlow_6 : decode cX1_drawAndBlow 6 = .ok (.ldc2_w 98, 3) := by decide +kernel
theorem dX1_drawAndBlow_9 : decode cX1_drawAndBlow 9 = .ok (.lmul, 1) := by decide +kernel
theorem dX1_drawAndBlow_10 : decode cX1_drawAndBlow 10 = .ok (.ldc2_w 100, 3) := by decide +kernel
theorem dX1_drawAndBlow_13 : decode cX1_drawAndBlow 13 = .ok (.ladd, 1) := by decide +kernel
theorem dX1_drawAndBlow_14 : decode cX1_drawAndBlow 14 = .ok (.ldc2_w 102, 3) := by decide +kernel
theorem dX1_drawAndBlow_17 : decode cX1_drawAndBlow 17 = .ok (.land, 1) := by decide +kernel
theorem dX1_drawAndBlow_18 : decode cX1_drawAndBlow 18 = .ok (.l2i, 1) := by decide +kernel
theorem dX1_drawAndBlow_19 : decode cX1_drawAndBlow 19 = .ok (.putfield 34, 3) := by decide +kernel
theorem dX1_drawAndBlow_22 : decode cX1_drawAndBlow 22 = .ok (.aload_n 0, 1) := by decide +kernel
theorem dX1_drawAndBlow_23 : decode cX1_drawAndBlow 23 = .ok (.getfield 34, 3) := by decide +kernel
theorem dX1_drawAndBlow_26 : decode cX1_drawAndBlow 26 = .ok (.ldc 104, 2) := by decide +kernel
theorem dX1_drawAndBlow_28 : decode cX1_drawAndBlow 28 = .ok (.idiv, 1) := by decide +kernel
theorem dX1_drawAndBlow_29 : decode cX1_drawAndBlow 29 = .ok (.iconst 4, 1) := by decide +kernel
theorem dX1_drawAndBlow_30 : decode cX1_drawAndBlow 30 = .ok (.irem, 1) := by decide +kernel
theorem dX1_drawAndBlow_31 : decode cX1_drawAndBlow 31 = .ok (.ifCond .ne 20, 3) := by decide +kernel
theorem dX1_drawAndBlow_34 : decode cX1_drawAndBlow 34 = .ok (.aload_n 0, 1) := by decide +kernel
theorem dX1_drawAndBlow_35 : decode cX1_drawAndBlow 35 = .ok (.iconst 1, 1) := by decide +kernel
theorem dX1_drawAndBlow_36 : decode cX1_drawAndBlow 36 = .ok (.aload_n 0, 1) := by decide +kernel
theorem dX1_drawAndBlow_37 : decode cX1_drawAndBlow 37 = .ok (.getfield 34, 3) := by decide +kernel
theorem dX1_drawAndBlow_40 : decode cX1_drawAndBlow 40 = .ok (.sipush 128, 3) := by decide +kernel
theorem dX1_drawAndBlow_43 : decode cX1_drawAndBlow 43 = .ok (.idiv, 1) := by decide +kernel
theorem dX1_drawAndBlow_44 : decode cX1_drawAndBlow 44 = .ok (.bipush 7, 2) := by decide +kernel
theorem dX1_drawAndBlow_46 : decode cX1_drawAndBlow 46 = .ok (.irem, 1) := by decide +kernel
theorem dX1_drawAndBlow_47 : decode cX1_drawAndBlow 47 = .ok (.iadd, 1) := by decide +kernel
theorem dX1_drawAndBlow_48 : decode cX1_drawAndBlow 48 = .ok (.invokevirtual 105, 3) := by decide +kernel
theorem dX1_drawAndBlow_51 : decode cX1_drawAndBlow 51 = .ok (.return_, 1) := by decide +kernel
theorem dX1_walk_0 : decode cX1_walk 0 = .ok (.iload_n 1, 1) := by decide +kernel
theorem dX1_walk_1 : decode cX1_walk 1 = .ok (.istore_n 3, 1) := by decide +kernel
theorem dX1_walk_2 : decode cX1_walk 2 = .ok (.iconst 0, 1) := by decide +kernel
theorem dX1_walk_3 : decode cX1_walk 3 = .ok (.istore 4, 2) := by decide +kernel
theorem dX1_walk_5 : decode cX1_walk 5 = .ok (.iload 4, 2) := by decide +kernel
theorem dX1_walk_7 : decode cX1_walk 7 = .ok (.iload_n 2, 1) := by decide +kernel
theorem dX1_walk_8 : decode cX1_walk 8 = .ok (.if_icmp .ge 22, 3) := by decide +kernel
theorem dX1_walk_11 : decode cX1_walk 11 = .ok (.aload_n 0, 1) := by decide +kernel
theorem dX1_walk_12 : decode cX1_walk 12 = .ok (.iload_n 3, 1) := by decide +kernel
theorem dX1_walk_13 : decode cX1_walk 13 = .ok (.aload_n 0, 1) := by decide +kernel
theorem dX1_walk_14 : decode cX1_walk 14 = .ok (.getfield 47, 3) := by decide +kernel
theorem dX1_walk_17 : decode cX1_walk 17 = .ok (.iload 4, 2) := by decide +kernel
theorem dX1_walk_19 : decode cX1_walk 19 = .ok (.iadd, 1) := by decide +kernel
theorem dX1_walk_20 : decode cX1_walk 20 = .ok (.invokevirtual 92, 3) := by decide +kernel
theorem dX1_walk_23 : decode cX1_walk 23 = .ok (.istore_n 3, 1) := by decide +kernel
theorem dX1_walk_24 : decode cX1_walk 24 = .ok (.iinc 4 1, 3) := by decide +kernel
theorem dX1_walk_27 : decode cX1_walk 27 = .ok (.goto (-22), 3) := by decide +kernel
theorem dX1_walk_30 : decode cX1_walk 30 = .ok (.iload_n 3, 1) := by decide +kernel
theorem dX1_walk_31 : decode cX1_walk 31 = .ok (.ireturn, 1) := by decide +kernel
theorem dX1_roundsTillBack_0 : decode cX1_roundsTillBack 0 = .ok (.iconst 1, 1) := by decide +kernel
theorem dX1_roundsTillBack_1 : decode cX1_roundsTillBack 1 = .ok (.istore_n 2, 1) := by decide +kernel
theorem dX1_roundsTillBack_2 : decode cX1_roundsTillBack 2 = .ok (.aload_n 0, 1) := by decide +kernel
theorem dX1_roundsTillBack_3 : decode cX1_roundsTillBack 3 = .ok (.iload_n 1, 1) := by decide +kernel
theorem dX1_roundsTillBack_4 : decode cX1_roundsTillBack 4 = .ok (.aload_n 0, 1) := by decide +kernel
theorem dX1_roundsTillBack_5 : decode cX1_roundsTillBack 5 = .ok (.getfield 44, 3) := by decide +kernel
theorem dX1_roundsTillBack_8 : decode cX1_roundsTillBack 8 = .ok (.invokevirtual 109, 3) := by decide +kernel
theorem dX1_roundsTillBack_11 : decode cX1_roundsTillBack 11 = .ok (.istore_n 3, 1) := by decide +kernel
theorem dX1_roundsTillBack_12 : decode cX1_roundsTillBack 12 = .ok (.iload_n 2, 1) := by decide +kernel
theorem dX1_roundsTillBack_13 : decode cX1_roundsTillBack 13 = .ok (.bipush 8, 2) := by decide +kernel
theorem dX1_roundsTillBack_15 : decode cX1_roundsTillBack 15 = .ok (.if_icmp .ge 24, 3) := by decide +kernel
theorem dX1_roundsTillBack_18 : decode cX1_roundsTillBack 18 = .ok (.iload_n 3, 1) := by decide +kernel
theorem dX1_roundsTillBack_19 : decode cX1_roundsTillBack 19 = .ok (.iload_n 1, 1) := by decide +kernel
theorem dX1_roundsTillBack_20 : decode cX1_roundsTillBack 20 = .ok (.if_icmp .eq 19, 3) := by decide +kernel
theorem dX1_roundsTillBack_23 : decode cX1_roundsTillBack 23 = .ok (.aload_n 0, 1) := by decide +kernel
theorem dX1_roundsTillBack_24 : decode cX1_roundsTillBack 24 = .ok (.iload_n 3, 1) := by decide +kernel
theorem dX1_roundsTillBack_25 : decode cX1_roundsTillBack 25 = .ok (.aload_n 0, 1) := by decide +kernel
theorem dX1_roundsTillBack_26 : decode cX1_roundsTillBack 26 = .ok (.getfield 44, 3) := by decide +kernel
theorem dX1_roundsTillBack_29 : decode cX1_roundsTillBack 29 = .ok (.invokevirtual 109, 3) := by decide +kernel
theorem dX1_roundsTillBack_32 : decode cX1_roundsTillBack 32 = .ok (.istore_n 3, 1) := by decide +kernel
theorem dX1_roundsTillBack_33 : decode cX1_roundsTillBack 33 = .ok (.iinc 2 1, 3) := by decide +kernel
theorem dX1_roundsTillBack_36 : decode cX1_roundsTillBack 36 = .ok (.goto (-24), 3) := by decide +kernel
theorem dX1_roundsTillBack_39 : decode cX1_roundsTillBack 39 = .ok (.iload_n 2, 1) := by decide +kernel
theorem dX1_roundsTillBack_40 : decode cX1_roundsTillBack 40 = .ok (.ireturn, 1) := by decide +kernel
theorem dX1_placeBehind_0 : decode cX1_placeBehind 0 = .ok (.aload_n 0, 1) := by decide +kernel
theorem dX1_placeBehind_1 : decode cX1_placeBehind 1 = .ok (.iload_n 1, 1) := by decide +kernel
theorem dX1_placeBehind_2 : decode cX1_placeBehind 2 = .ok (.invokevirtual 112, 3) := by decide +kernel
theorem dX1_placeBehind_5 : decode cX1_placeBehind 5 = .ok (.istore_n 3, 1) := by decide +kernel
theorem dX1_placeBehind_6 : decode cX1_placeBehind 6 = .ok (.aload_n 0, 1) := by decide +kernel
theorem dX1_placeBehind_7 : decode cX1_placeBehind 7 = .ok (.getfield 44, 3) := by decide +kernel
theorem dX1_placeBehind_10 : decode cX1_placeBehind 10 = .ok (.ifCond .le 7, 3) := by decide +kernel
theorem dX1_placeBehind_13 : decode cX1_placeBehind 13 = .ok (.iload_n 3, 1) := by decide +kernel
theorem dX1_placeBehind_14 : decode cX1_placeBehind 14 = .ok (.ifCond .gt 5, 3) := by decide +kernel
theorem dX1_placeBehind_17 : decode cX1_placeBehind 17 = .ok (.iload_n 1, 1) := by decide +kernel
theorem dX1_placeBehind_18 : decode cX1_placeBehind 18 = .ok (.ireturn, 1) := by decide +kernel
theorem dX1_placeBehind_19 : decode cX1_placeBehind 19 = .ok (.iload_n 2, 1) := by decide +kernel
theorem dX1_placeBehind_20 : decode cX1_placeBehind 20 = .ok (.aload_n 0, 1) := by decide +kernel
theorem dX1_placeBehind_21 : decode cX1_placeBehind 21 = .ok (.getfield 44, 3) := by decide +kernel
theorem dX1_placeBehind_24 : decode cX1_placeBehind 24 = .ok (.idiv, 1) := by decide +kernel
theorem dX1_placeBehind_25 : decode cX1_placeBehind 25 = .ok (.iload_n 3, 1) := by decide +kernel
theorem dX1_placeBehind_26 : decode cX1_placeBehind 26 = .ok (.irem, 1) := by decide +kernel
theorem dX1_placeBehind_27 : decode cX1_placeBehind 27 = .ok (.istore 4, 2) := by decide +kernel
theorem dX1_placeBehind_29 : decode cX1_placeBehind 29 = .ok (.iload_n 1, 1) := by decide +kernel
theorem dX1_placeBehind_30 : decode cX1_placeBehind 30 = .ok (.istore 5, 2) := by decide +kernel
theorem dX1_placeBehind_32 : decode cX1_placeBehind 32 = .ok (.iconst 0, 1) := by decide +kernel
theorem dX1_placeBehind_33 : decode cX1_placeBehind 33 = .ok (.istore 6, 2) := by decide +kernel
theorem dX1_placeBehind_35 : decode cX1_placeBehind 35 = .ok (.iload 6, 2) := by decide +kernel
theorem dX1_placeBehind_37 : decode cX1_placeBehind 37 = .ok (.iload 4, 2) := by decide +kernel
theorem dX1_placeBehind_39 : decode cX1_placeBehind 39 = .ok (.if_icmp .ge 21, 3) := by decide +kernel
theorem dX1_placeBehind_42 : decode cX1_placeBehind 42 = .ok (.aload_n 0, 1) := by decide +kernel
theorem dX1_placeBehind_43 : decode cX1_placeBehind 43 = .ok (.iload 5, 2) := by decide +kernel
theorem dX1_placeBehind_45 : decode cX1_placeBehind 45 = .ok (.aload_n 0, 1) := by decide +kernel
theorem dX1_placeBehind_46 : decode cX1_placeBehind 46 = .ok (.getfield 44, 3) := by decide +kernel
theorem dX1_placeBehind_49 : decode cX1_placeBehind 49 = .ok (.invokevirtual 109, 3) := by decide +kernel
theorem dX1_placeBehind_52 : decode cX1_placeBehind 52 = .ok (.istore 5, 2) := by decide +kernel
theorem dX1_placeBehind_54 : decode cX1_placeBehind 54 = .ok (.iinc 6 1, 3) := by decide +kernel
theorem dX1_placeBehind_57 : decode cX1_placeBehind 57 = .ok (.goto (-22), 3) := by decide +kernel
theorem dX1_placeBehind_60 : decode cX1_placeBehind 60 = .ok (.aload_n 0, 1) := by decide +kernel
theorem dX1_placeBehind_61 : decode cX1_placeBehind 61 = .ok (.iload 5, 2) := by decide +kernel
theorem dX1_placeBehind_63 : decode cX1_placeBehind 63 = .ok (.iload_n 2, 1) := by decide +kernel
theorem dX1_placeBehind_64 : decode cX1_placeBehind 64 = .ok (.aload_n 0, 1) := by decide +kernel
theorem dX1_placeBehind_65 : decode cX1_placeBehind 65 = .ok (.getfield 44, 3) := by decide +kernel
theorem dX1_placeBehind_68 : decode cX1_placeBehind 68 = .ok (.irem, 1) := by decide +kernel
theorem dX1_placeBehind_69 : decode cX1_placeBehind 69 = .ok (.invokevirtual 109, 3) := by decide +kernel
theorem dX1_placeBehind_72 : decode cX1_placeBehind 72 = .ok (.ireturn, 1) := by decide +kernel
theorem dX2_init_0 : decode cX2_init 0 = .ok (.aload_n 0, 1) := by decide +kernel
theorem dX2_init_1 : decode cX2_init 1 = .ok (.invokespecial 3, 3) := by decide +kernel
theorem dX2_init_4 : decode cX2_init 4 = .ok (.aload_n 0, 1) := by decide +kernel
theorem dX2_init_5 : decode cX2_init 5 = .ok (.sipush 256, 3) := by decide +kernel
theorem dX2_init_8 : decode cX2_init 8 = .ok (.newarray .int, 2) := by decide +kernel
theorem dX2_init_10 : decode cX2_init 10 = .ok (.putfield 9, 3) := by decide +kernel
theorem dX2_init_13 : decode cX2_init 13 = .ok (.aload_n 0, 1) := by decide +kernel
theorem dX2_init_14 : decode cX2_init 14 = .ok (.sipush 256, 3) := by decide +kernel
theorem dX2_init_17 : decode cX2_init 17 = .ok (.newarray .int, 2) := by decide +kernel
theorem dX2_init_19 : decode cX2_init 19 = .ok (.putfield 15, 3) := by decide +kernel
theorem dX2_init_22 : decode cX2_init 22 = .ok (.aload_n 0, 1) := by decide +kernel
theorem dX2_init_23 : decode cX2_init 23 = .ok (.sipush 256, 3) := by decide +kernel
theorem dX2_init_26 : decode cX2_init 26 = .ok (.newarray .int, 2) := by decide +kernel
theorem dX2_init_28 : decode cX2_init 28 = .ok (.putfield 18, 3) := by decide +kernel
theorem dX2_init_31 : decode cX2_init 31 = .ok (.aload_n 0, 1) := by decide +kernel
theorem dX2_init_32 : decode cX2_init 32 = .ok (.sipush 256, 3) := by decide +kernel
theorem dX2_init_35 : decode cX2_init 35 = .ok (.newarray .int, 2) := by decide +kernel
theorem dX2_init_37 : decode cX2_init 37 = .ok (.putfield 21, 3) := by decide +kernel
theorem dX2_init_40 : decode cX2_init 40 = .ok (.return_, 1) := by decide +kernel
theorem dX2_explore_0 : decode cX2_explore 0 = .ok (.iconst 0, 1) := by decide +kernel
theorem dX2_explore_1 : decode cX2_explore 1 = .ok (.istore_n 3, 1) := by decide +kernel
theorem dX2_explore_2 : decode cX2_explore 2 = .ok (.iload_n 3, 1) := by decide +kernel
theorem dX2_explore_3 : decode cX2_explore 3 = .ok (.sipush 256, 3) := by decide +kernel
theorem dX2_explore_6 : decode cX2_explore 6 = .ok (.if_icmp .ge 17, 3) := by decide +kernel
theorem dX2_explore_9 : decode cX2_explore 9 = .ok (.aload_n 0, 1) := by decide +kernel
theorem dX2_explore_10 : decode cX2_explore 10 = .ok (.getfield 9, 3) := by decide +kernel
theorem dX2_explore_13 : decode cX2_explore 13 = .ok (.iload_n 3, 1) := by decide +kernel
theorem dX2_explore_14 : decode cX2_explore 14 = .ok (.bipush (-4), 2) := by decide +kernel
theorem dX2_explore_16 : decode cX2_explore 16 = .ok (.iastore, 1) := by decide +kernel
theorem dX2_explore_17 : decode cX2_explore 17 = .ok (.iinc 3 1, 3) := by decide +kernel
theorem dX2_explore_20 : decode cX2_explore 20 = .ok (.goto (-18), 3) := by decide +kernel
theorem dX2_explore_23 : decode cX2_explore 23 = .ok (.aload_n 0, 1) := by decide +kernel
theorem dX2_explore_24 : decode cX2_explore 24 = .ok (.getfield 9, 3) := by decide +kernel
theorem dX2_explore_27 : decode cX2_explore 27 = .ok (.iload_n 2, 1) := by decide +kernel
theorem dX2_explore_28 : decode cX2_explore 28 = .ok (.iconst 0, 1) := by decide +kernel
theorem dX2_explore_29 : decode cX2_explore 29 = .ok (.iastore, 1) := by decide +kernel
theorem dX2_explore_30 : decode cX2_explore 30 = .ok (.aload_n 0, 1) := by decide +kernel
theorem dX2_explore_31 : decode cX2_explore 31 = .ok (.getfield 21, 3) := by decide +kernel
theorem dX2_explore_34 : decode cX2_explore 34 = .ok (.iconst 0, 1) := by decide +kernel
theorem dX2_explore_35 : decode cX2_explore 35 = .ok (.iload_n 2, 1) := by decide +kernel
theorem dX2_explore_36 : decode cX2_explore 36 = .ok (.iastore, 1) := by decide +kernel
theorem dX2_explore_37 : decode cX2_explore 37 = .ok (.aload_n 0, 1) := by decide +kernel
theorem dX2_explore_38 : decode cX2_explore 38 = .ok (.iconst 1, 1) := by decide +kernel
theorem dX2_explore_39 : decode cX2_explore 39 = .ok (.putfield 24, 3) := by decide +kernel
theorem dX2_explore_42 : decode cX2_explore 42 = .ok (.iconst 0, 1) := by decide +kernel
theorem dX2_explore_43 : decode cX2_explore 43 = .ok (.istore_n 3, 1) := by decide +kernel
theorem dX2_explore_44 : decode cX2_explore 44 = .ok (.iload_n 3, 1) := by decide +kernel
theorem dX2_explore_45 : decode cX2_explore 45 = .ok (.aload_n 0, 1) := by decide +kernel
theorem dX2_explore_46 : decode cX2_explore 46 = .ok (.getfield 24, 3) := by decide +kernel
theorem dX2_explore_49 : decode cX2_explore 49 = .ok (.if_icmp .ge 58, 3) := by decide +kernel
theorem dX2_explore_52 : decode cX2_explore 52 = .ok (.iload_n 3, 1) := by decide +kernel
theorem dX2_explore_53 : decode cX2_explore 53 = .ok (.sipush 256, 3) := by decide +kernel
theorem dX2_explore_56 : decode cX2_explore 56 = .ok (.if_icmp .ge 51, 3) := by decide +kernel
theorem dX2_explore_59 : decode cX2_explore 59 = .ok (.iconst 0, 1) := by decide +kernel
theorem dX2_explore_60 : decode cX2_explore 60 = .ok (.istore 4, 2) := by decide +kernel
theorem dX2_explore_62 : decode cX2_explore 62 = .ok (.iload 4, 2) := by decide +kernel
theorem dX2_explore_64 : decode cX2_explore 64 = .ok (.aload_n 1, 1) := by decide +kernel
theorem dX2_explore_65 : decode cX2_explore 65 = .ok (.getfield 28, 3) := by decide +kernel
theorem dX2_explore_68 : decode cX2_explore 68 = .ok (.if_icmp .ge 33, 3) := by decide +kernel
theorem dX2_explore_71 : decode cX2_explore 71 = .ok (.aload_n 0, 1) := by decide +kernel
theorem dX2_explore_72 : decode cX2_explore 72 = .ok (.aload_n 1, 1) := by decide +kernel
theorem dX2_explore_73 : decode cX2_explore 73 = .ok (.iload 4, 2) := by decide +kernel
theorem dX2_explore_75 : decode cX2_explore 75 = .ok (.aload_n 0, 1) := by decide +kernel
theorem dX2_explore_76 : decode cX2_explore 76 = .ok (.getfield 21, 3) := by decide +kernel
theorem dX2_explore_79 : decode cX2_explore 79 = .ok (.iload_n 3, 1) := by decide +kernel
theorem dX2_explore_80 : decode cX2_explore 80 = .ok (.iaload, 1) := by decide +kernel
theorem dX2_explore_81 : decode cX2_explore 81 = .ok (.invokevirtual 33, 3) := by decide +kernel
theorem dX2_explore_84 : decode cX2_explore 84 = .ok (.aload_n 0, 1) := by decide +kernel
theorem dX2_explore_85 : decode cX2_explore 85 = .ok (.getfield 21, 3) := by decide +kernel
theorem dX2_explore_88 : decode cX2_explore 88 = .ok (.iload_n 3, 1) := by decide +kernel
theorem dX2_explore_89 : decode cX2_explore 89 = .ok (.iaload, 1) := by decide +kernel
theorem dX2_explore_90 : decode cX2_explore 90 = .ok (.iload 4, 2) := by decide +kernel
theorem dX2_explore_92 : decode cX2_explore 92 = .ok (.invokevirtual 37, 3) := by decide +kernel
theorem dX2_explore_95 : decode cX2_explore 95 = .ok (.iinc 4 1, 3) := by decide +kernel
theorem dX2_explore_98 : decode cX2_explore 98 = .ok (.goto (-36), 3) := by decide +kernel
theorem dX2_explore_101 : decode cX2_explore 101 = .ok (.iinc 3 1, 3) := by decide +kernel
theorem dX2_explore_104 : decode cX2_explore 104 = .ok (.goto (-60), 3) := by decide +kernel
theorem dX2_explore_107 : decode cX2_explore 107 = .ok (.return_, 1) := by decide +kernel
theorem dX2_comeTo_0 : decode cX2_comeTo 0 = .ok (.aload_n 0, 1) := by decide +kernel
theorem dX2_comeTo_1 : decode cX2_comeTo 1 = .ok (.getfield 9, 3) := by decide +kernel
theorem dX2_comeTo_4 : decode cX2_comeTo 4 = .ok (.iload_n 1, 1) := by decide +kernel
theorem dX2_comeTo_5 : decode cX2_comeTo 5 = .ok (.iaload, 1) := by decide +kernel
theorem dX2_comeTo_6 : decode cX2_comeTo 6 = .ok (.bipush (-4), 2) := by decide +kernel
theorem dX2_comeTo_8 : decode cX2_comeTo 8 = .ok (.if_icmp .ne 13, 3) := by decide +kernel
theorem dX2_comeTo_11 : decode cX2_comeTo 11 = .ok (.aload_n 0, 1) := by decide +kernel
theorem dX2_comeTo_12 : decode cX2_comeTo 12 = .ok (.getfield 24, 3) := by decide +kernel
theorem dX2_comeTo_15 : decode cX2_comeTo 15 = .ok (.sipush 256, 3) := by decide +kernel
theorem dX2_comeTo_18 : decode cX2_comeTo 18 = .ok (.if_icmp .lt 4, 3) := by decide +kernel
theorem dX2_comeTo_21 : decode cX2_comeTo 21 = .ok (.return_, 1) := by decide +kernel
theorem dX2_comeTo_22 : decode cX2_comeTo 22 = .ok (.aload_n 0, 1) := by decide +kernel
theorem dX2_comeTo_23 : decode cX2_comeTo 23 = .ok (.getfield 9, 3) := by decide +kernel
theorem dX2_comeTo_26 : decode cX2_comeTo 26 = .ok (.iload_n 1, 1) := by decide +kernel
theorem dX2_comeTo_27 : decode cX2_comeTo 27 = .ok (.aload_n 0, 1) := by decide +kernel
theorem dX2_comeTo_28 : decode cX2_comeTo 28 = .ok (.getfield 9, 3) := by decide +kernel
theorem dX2_comeTo_31 : decode cX2_comeTo 31 = .ok (.iload_n 2, 1) := by decide +kernel
theorem dX2_comeTo_32 : decode cX2_comeTo 32 = .ok (.iaload, 1) := by decide +kernel
theorem dX2_comeTo_33 : decode cX2_comeTo 33 = .ok (.iconst 1, 1) := by decide +kernel
theorem dX2_comeTo_34 : decode cX2_comeTo 34 = .ok (.iadd, 1) := by decide +kernel
theorem dX2_comeTo_35 : decode cX2_comeTo 35 = .ok (.iastore, 1) := by decide +kernel
theorem dX2_comeTo_36 : decode cX2_comeTo 36 = .ok (.aload_n 0, 1) := by decide +kernel
theorem dX2_comeTo_37 : decode cX2_comeTo 37 = .ok (.getfield 15, 3) := by decide +kernel
theorem dX2_comeTo_40 : decode cX2_comeTo 40 = .ok (.iload_n 1, 1) := by decide +kernel
theorem dX2_comeTo_41 : decode cX2_comeTo 41 = .ok (.iload_n 2, 1) := by decide +kernel
theorem dX2_comeTo_42 : decode cX2_comeTo 42 = .ok (.iastore, 1) := by decide +kernel
theorem dX2_comeTo_43 : decode cX2_comeTo 43 = .ok (.aload_n 0, 1) := by decide +kernel
theorem dX2_comeTo_44 : decode cX2_comeTo 44 = .ok (.getfield 18, 3) := by decide +kernel
theorem dX2_comeTo_47 : decode cX2_comeTo 47 = .ok (.iload_n 1, 1) := by decide +kernel
theorem dX2_comeTo_48 : decode cX2_comeTo 48 = .ok (.iload_n 3, 1) := by decide +kernel
theorem dX2_comeTo_49 : decode cX2_comeTo 49 = .ok (.iastore, 1) := by decide +kernel
theorem dX2_comeTo_50 : decode cX2_comeTo 50 = .ok (.aload_n 0, 1) := by decide +kernel
theorem dX2_comeTo_51 : decode cX2_comeTo 51 = .ok (.getfield 21, 3) := by decide +kernel
theorem dX2_comeTo_54 : decode cX2_comeTo 54 = .ok (.aload_n 0, 1) := by decide +kernel
theorem dX2_comeTo_55 : decode cX2_comeTo 55 = .ok (.getfield 24, 3) := by decide +kernel
theorem dX2_comeTo_58 : decode cX2_comeTo 58 = .ok (.iload_n 1, 1) := by decide +kernel
theorem dX2_comeTo_59 : decode cX2_comeTo 59 = .ok (.iastore, 1) := by decide +kernel
theorem dX2_comeTo_60 : decode cX2_comeTo 60 = .ok (.aload_n 0, 1) := by decide +kernel
theorem dX2_comeTo_61 : decode cX2_comeTo 61 = .ok (.dup, 1) := by decide +kernel
theorem dX2_comeTo_62 : decode cX2_comeTo 62 = .ok (.getfield 24, 3) := by decide +kernel
theorem dX2_comeTo_65 : decode cX2_comeTo 65 = .ok (.iconst 1, 1) := by decide +kernel
theorem dX2_comeTo_66 : decode cX2_comeTo 66 = .ok (.iadd, 1) := by decide +kernel
theorem dX2_comeTo_67 : decode cX2_comeTo 67 = .ok (.putfield 24, 3) := by decide +kernel
theorem dX2_comeTo_70 : decode cX2_comeTo 70 = .ok (.return_, 1) := by decide +kernel
theorem dX2_howFar_0 : decode cX2_howFar 0 = .ok (.aload_n 0, 1) := by decide +kernel
theorem dX2_howFar_1 : decode cX2_howFar 1 = .ok (.getfield 9, 3) := by decide +kernel
theorem dX2_howFar_4 : decode cX2_howFar 4 = .ok (.iload_n 1, 1) := by decide +kernel
theorem dX2_howFar_5 : decode cX2_howFar 5 = .ok (.iaload, 1) := by decide +kernel
theorem dX2_howFar_6 : decode cX2_howFar 6 = .ok (.ireturn, 1) := by decide +kernel
theorem dX2_figureOnWay_0 : decode cX2_figureOnWay 0 = .ok (.aload_n 0, 1) := by decide +kernel
theorem dX2_figureOnWay_1 : decode cX2_figureOnWay 1 = .ok (.getfield 9, 3) := by decide +kernel
theorem dX2_figureOnWay_4 : decode cX2_figureOnWay 4 = .ok (.iload_n 1, 1) := by decide +kernel
theorem dX2_figureOnWay_5 : decode cX2_figureOnWay 5 = .ok (.iaload, 1) := by decide +kernel
theorem dX2_figureOnWay_6 : decode cX2_figureOnWay 6 = .ok (.bipush (-4), 2) := by decide +kernel
theorem dX2_figureOnWay_8 : decode cX2_figureOnWay 8 = .ok (.if_icmp .eq 13, 3) := by decide +kernel
theorem dX2_figureOnWay_11 : decode cX2_figureOnWay 11 = .ok (.iload_n 2, 1) := by decide +kernel
theorem dX2_figureOnWay_12 : decode cX2_figureOnWay 12 = .ok (.aload_n 0, 1) := by decide +kernel
theorem dX2_figureOnWay_13 : decode cX2_figureOnWay 13 = .ok (.getfield 9, 3) := by decide +kernel
theorem dX2_figureOnWay_16 : decode cX2_figureOnWay 16 = .ok (.iload_n 1, 1) := by decide +kernel
theorem dX2_figureOnWay_17 : decode cX2_figureOnWay 17 = .ok (.iaload, 1) := by decide +kernel
theorem dX2_figureOnWay_18 : decode cX2_figureOnWay 18 = .ok (.if_icmp .lt 6, 3) := by decide +kernel
theorem dX2_figureOnWay_21 : decode cX2_figureOnWay 21 = .ok (.bipush (-4), 2) := by decide +kernel
theorem dX2_figureOnWay_23 : decode cX2_figureOnWay 23 = .ok (.ireturn, 1) := by decide +kernel
theorem dX2_figureOnWay_24 : decode cX2_figureOnWay 24 = .ok (.iload_n 1, 1) := by decide +kernel
theorem dX2_figureOnWay_25 : decode cX2_figureOnWay 25 = .ok (.istore_n 3, 1) := by decide +kernel
theorem dX2_figureOnWay_26 : decode cX2_figureOnWay 26 = .ok (.aload_n 0, 1) := by decide +kernel
theorem dX2_figureOnWay_27 : decode cX2_figureOnWay 27 = .ok (.getfield 9, 3) := by decide +kernel
theorem dX2_figureOnWay_30 : decode cX2_figureOnWay 30 = .ok (.iload_n 1, 1) := by decide +kernel
theorem dX2_figureOnWay_31 : decode cX2_figureOnWay 31 = .ok (.iaload, 1) := by decide +kernel
theorem dX2_figureOnWay_32 : decode cX2_figureOnWay 32 = .ok (.iconst 1, 1) := by decide +kernel
theorem dX2_figureOnWay_33 : decode cX2_figureOnWay 33 = .ok (.isub, 1) := by decide +kernel
theorem dX2_figureOnWay_34 : decode cX2_figureOnWay 34 = .ok (.istore 4, 2) := by decide +kernel
theorem dX2_figureOnWay_36 : decode cX2_figureOnWay 36 = .ok (.iload 4, 2) := by decide +kernel
theorem dX2_figureOnWay_38 : decode cX2_figureOnWay 38 = .ok (.iload_n 2, 1) := by decide +kernel
theorem dX2_figureOnWay_39 : decode cX2_figureOnWay 39 = .ok (.if_icmp .le 16, 3) := by decide +kernel
theorem dX2_figureOnWay_42 : decode cX2_figureOnWay 42 = .ok (.aload_n 0, 1) := by decide +kernel
theorem dX2_figureOnWay_43 : decode cX2_figureOnWay 43 = .ok (.getfield 15, 3) := by decide +kernel
theorem dX2_figureOnWay_46 : decode cX2_figureOnWay 46 = .ok (.iload_n 3, 1) := by decide +kernel
theorem dX2_figureOnWay_47 : decode cX2_figureOnWay 47 = .ok (.iaload, 1) := by decide +kernel
theorem dX2_figureOnWay_48 : decode cX2_figureOnWay 48 = .ok (.istore_n 3, 1) := by decide +kernel
theorem dX2_figureOnWay_49 : decode cX2_figureOnWay 49 = .ok (.iinc 4 (-1), 3) := by decide +kernel
theorem dX2_figureOnWay_52 : decode cX2_figureOnWay 52 = .ok (.goto (-16), 3) := by decide +kernel
theorem dX2_figureOnWay_55 : decode cX2_figureOnWay 55 = .ok (.aload_n 0, 1) := by decide +kernel
theorem dX2_figureOnWay_56 : decode cX2_figureOnWay 56 = .ok (.getfield 18, 3) := by decide +kernel
theorem dX2_figureOnWay_59 : decode cX2_figureOnWay 59 = .ok (.iload_n 3, 1) := by decide +kernel
theorem dX2_figureOnWay_60 : decode cX2_figureOnWay 60 = .ok (.iaload, 1) := by decide +kernel
theorem dX2_figureOnWay_61 : decode cX2_figureOnWay 61 = .ok (.ireturn, 1) := by decide +kernel
theorem dX2_widestPair_0 : decode cX2_widestPair 0 = .ok (.aload_n 0, 1) := by decide +kernel
theorem dX2_widestPair_1 : decode cX2_widestPair 1 = .ok (.getfield 21, 3) := by decide +kernel
theorem dX2_widestPair_4 : decode cX2_widestPair 4 = .ok (.iconst 0, 1) := by decide +kernel
theorem dX2_widestPair_5 : decode cX2_widestPair 5 = .ok (.iaload, 1) := by decide +kernel
theorem dX2_widestPair_6 : decode cX2_widestPair 6 = .ok (.istore_n 1, 1) := by decide +kernel
theorem dX2_widestPair_7 : decode cX2_widestPair 7 = .ok (.iconst 1, 1) := by decide +kernel
theorem dX2_widestPair_8 : decode cX2_widestPair 8 = .ok (.istore_n 2, 1) := by decide +kernel
theorem dX2_widestPair_9 : decode cX2_widestPair 9 = .ok (.iload_n 2, 1) := by decide +kernel
theorem dX2_widestPair_10 : decode cX2_widestPair 10 = .ok (.aload_n 0, 1) := by decide +kernel
theorem dX2_widestPair_11 : decode cX2_widestPair 11 = .ok (.getfield 24, 3) := by decide +kernel
theorem dX2_widestPair_14 : decode cX2_widestPair 14 = .ok (.if_icmp .ge 32, 3) := by decide +kernel
theorem dX2_widestPair_17 : decode cX2_widestPair 17 = .ok (.aload_n 0, 1) := by decide +kernel
theorem dX2_widestPair_18 : decode cX2_widestPair 18 = .ok (.getfield 21, 3) := by decide +kernel
theorem dX2_widestPair_21 : decode cX2_widestPair 21 = .ok (.iload_n 2, 1) := by decide +kernel
theorem dX2_widestPair_22 : decode cX2_widestPair 22 = .ok (.iaload, 1) := by decide +kernel
theorem dX2_widestPair_23 : decode cX2_widestPair 23 = .ok (.invokestatic 41, 3) := by decide +kernel
theorem dX2_widestPair_26 : decode cX2_widestPair 26 = .ok (.iload_n 1, 1) := by decide +kernel
theorem dX2_widestPair_27 : decode cX2_widestPair 27 = .ok (.invokestatic 41, 3) := by decide +kernel
theorem dX2_widestPair_30 : decode cX2_widestPair 30 = .ok (.if_icmp .le 10, 3) := by decide +kernel
theorem dX2_widestPair_33 : decode cX2_widestPair 33 = .ok (.aload_n 0, 1) := by decide +kernel
theorem dX2_widestPair_34 : decode cX2_widestPair 34 = .ok (.getfield 21, 3) := by decide +kernel
theorem dX2_widestPair_37 : decode cX2_widestPair 37 = .ok (.iload_n 2, 1) := by decide +kernel
theorem dX2_widestPair_38 : decode cX2_widestPair 38 = .ok (.iaload, 1) := by decide +kernel
theorem dX2_widestPair_39 : decode cX2_widestPair 39 = .ok (.istore_n 1, 1) := by decide +kernel
theorem dX2_widestPair_40 : decode cX2_widestPair 40 = .ok (.iinc 2 1, 3) := by decide +kernel
theorem dX2_widestPair_43 : decode cX2_widestPair 43 = .ok (.goto (-34), 3) := by decide +kernel
theorem dX2_widestPair_46 : decode cX2_widestPair 46 = .ok (.iload_n 1, 1) := by decide +kernel
theorem dX2_widestPair_47 : decode cX2_widestPair 47 = .ok (.ireturn, 1) := by decide +kernel
theorem dX3_init_0 : decode cX3_init 0 = .ok (.aload_n 0, 1) := by decide +kernel
theorem dX3_init_1 : decode cX3_init 1 = .ok (.invokespecial 3, 3) := by decide +kernel
theorem dX3_init_4 : decode cX3_init 4 = .ok (.aload_n 0, 1) := by decide +kernel
theorem dX3_init_5 : decode cX3_init 5 = .ok (.iconst 4, 1) := by decide +kernel
theorem dX3_init_6 : decode cX3_init 6 = .ok (.newarray .int, 2) := by decide +kernel
theorem dX3_init_8 : decode cX3_init 8 = .ok (.dup, 1) := by decide +kernel
theorem dX3_init_9 : decode cX3_init 9 = .ok (.iconst 0, 1) := by decide +kernel
theorem dX3_init_10 : decode cX3_init 10 = .ok (.bipush (-4), 2) := by decide +kernel
theorem dX3_init_12 : decode cX3_init 12 = .ok (.iastore, 1) := by decide +kernel
theorem dX3_init_13 : decode cX3_init 13 = .ok (.dup, 1) := by decide +kernel
theorem dX3_init_14 : decode cX3_init 14 = .ok (.iconst 1, 1) := by decide +kernel
theorem dX3_init_15 : decode cX3_init 15 = .ok (.bipush (-4), 2) := by decide +kernel
theorem dX3_init_17 : decode cX3_init 17 = .ok (.iastore, 1) := by decide +kernel
theorem dX3_init_18 : decode cX3_init 18 = .ok (.dup, 1) := by decide +kernel
theorem dX3_init_19 : decode cX3_init 19 = .ok (.iconst 2, 1) := by decide +kernel
theorem dX3_init_20 : decode cX3_init 20 = .ok (.bipush (-4), 2) := by decide +kernel
theorem dX3_init_22 : decode cX3_init 22 = .ok (.iastore, 1) := by decide +kernel
theorem dX3_init_23 : decode cX3_init 23 = .ok (.dup, 1) := by decide +kernel
theorem dX3_init_24 : decode cX3_init 24 = .ok (.iconst 3, 1) := by decide +kernel
theorem dX3_init_25 : decode cX3_init 25 = .ok (.bipush (-4), 2) := by decide +kernel
theorem dX3_init_27 : decode cX3_init 27 = .ok (.iastore, 1) := by decide +kernel
theorem dX3_init_28 : decode cX3_init 28 = .ok (.putfield 9, 3) := by decide +kernel
theorem dX3_init_31 : decode cX3_init 31 = .ok (.aload_n 0, 1) := by decide +kernel
theorem dX3_init_32 : decode cX3_init 32 = .ok (.iconst 4, 1) := by decide +kernel
theorem dX3_init_33 : decode cX3_init 33 = .ok (.newarray .int, 2) := by decide +kernel
theorem dX3_init_35 : decode cX3_init 35 = .ok (.putfield 15, 3) := by decide +kernel
theorem dX3_init_38 : decode cX3_init 38 = .ok (.aload_n 0, 1) := by decide +kernel
theorem dX3_init_39 : decode cX3_init 39 = .ok (.bipush 96, 2) := by decide +kernel
theorem dX3_init_41 : decode cX3_init 41 = .ok (.newarray .long, 2) := by decide +kernel
theorem dX3_init_43 : decode cX3_init 43 = .ok (.putfield 18, 3) := by decide +kernel
theorem dX3_init_46 : decode cX3_init 46 = .ok (.return_, 1) := by decide +kernel
theorem dX3_isThere_0 : decode cX3_isThere 0 = .ok (.aload_n 0, 1) := by decide +kernel
theorem dX3_isThere_1 : decode cX3_isThere 1 = .ok (.getfield 9, 3) := by decide +kernel
theorem dX3_isThere_4 : decode cX3_isThere 4 = .ok (.iload_n 1, 1) := by decide +kernel
theorem dX3_isThere_5 : decode cX3_isThere 5 = .ok (.iaload, 1) := by decide +kernel
theorem dX3_isThere_6 : decode cX3_isThere 6 = .ok (.bipush (-4), 2) := by decide +kernel
theorem dX3_isThere_8 : decode cX3_isThere 8 = .ok (.if_icmp .eq 7, 3) := by decide +kernel
theorem dX3_isThere_11 : decode cX3_isThere 11 = .ok (.iconst 1, 1) := by decide +kernel
theorem dX3_isThere_12 : decode cX3_isThere 12 = .ok (.goto 4, 3) := by decide +kernel
theorem dX3_isThere_15 : decode cX3_isThere 15 = .ok (.iconst 0, 1) := by decide +kernel
theorem dX3_isThere_16 : decode cX3_isThere 16 = .ok (.ireturn, 1) := by decide +kernel
theorem dX3_hasItems_0 : decode cX3_hasItems 0 = .ok (.iload_n 3, 1) := by decide +kernel
theorem dX3_hasItems_1 : decode cX3_hasItems 1 = .ok (.ifCond .lt 33, 3) := by decide +kernel
theorem dX3_hasItems_4 : decode cX3_hasItems 4 = .ok (.iload_n 2, 1) := by decide +kernel
theorem dX3_hasItems_5 : decode cX3_hasItems 5 = .ok (.ifCond .lt 29, 3) := by decide +kernel
theorem dX3_hasItems_8 : decode cX3_hasItems 8 = .ok (.iload_n 2, 1) := by decide +kernel
theorem dX3_hasItems_9 : decode cX3_hasItems 9 = .ok (.aload_n 0, 1) := by decide +kernel
theorem dX3_hasItems_10 : decode cX3_hasItems 10 = .ok (.getfield 15, 3) := by decide +kernel
theorem dX3_hasItems_13 : decode cX3_hasItems 13 = .ok (.iload_n 1, 1) := by decide +kernel
theorem dX3_hasItems_14 : decode cX3_hasItems 14 = .ok (.iaload, 1) := by decide +kernel
theorem dX3_hasItems_15 : decode cX3_hasItems 15 = .ok (.if_icmp .gt 19, 3) := by decide +kernel
theorem dX3_hasItems_18 : decode cX3_hasItems 18 = .ok (.iload_n 3, 1) := by decide +kernel
theorem dX3_hasItems_19 : decode cX3_hasItems 19 = .ok (.aload_n 0, 1) := by decide +kernel
theorem dX3_hasItems_20 : decode cX3_hasItems 20 = .ok (.getfield 15, 3) := by decide +kernel
theorem dX3_hasItems_23 : decode cX3_hasItems 23 = .ok (.iload_n 1, 1) := by decide +kernel
theorem dX3_hasItems_24 : decode cX3_hasItems 24 = .ok (.iaload, 1) := by decide +kernel
theorem dX3_hasItems_25 : decode cX3_hasItems 25 = .ok (.iload_n 2, 1) := by decide +kernel
theorem dX3_hasItems_26 : decode cX3_hasItems 26 = .ok (.isub, 1) := by decide +kernel
theorem dX3_hasItems_27 : decode cX3_hasItems 27 = .ok (.if_icmp .gt 7, 3) := by decide +kernel
theorem dX3_hasItems_30 : decode cX3_hasItems 30 = .ok (.iconst 1, 1) := by decide +kernel
theorem dX3_hasItems_31 : decode cX3_hasItems 31 = .ok (.goto 4, 3) := by decide +kernel
theorem dX3_hasItems_34 : decode cX3_hasItems 34 = .ok (.iconst 0, 1) := by decide +kernel
theorem dX3_hasItems_35 : decode cX3_hasItems 35 = .ok (.ireturn, 1) := by decide +kernel
theorem dX3_refused_0 : decode cX3_refused 0 = .ok (.aload_n 0, 1) := by decide +kernel
theorem dX3_refused_1 : decode cX3_refused 1 = .ok (.iload_n 1, 1) := by decide +kernel
theorem dX3_refused_2 : decode cX3_refused 2 = .ok (.invokevirtual 22, 3) := by decide +kernel
theorem dX3_refused_5 : decode cX3_refused 5 = .ok (.ifCond .ne 6, 3) := by decide +kernel
theorem dX3_refused_8 : decode cX3_refused 8 = .ok (.bipush (-11), 2) := by decide +kernel
theorem dX3_refused_10 : decode cX3_refused 10 = .ok (.ireturn, 1) := by decide +kernel
theorem dX3_refused_11 : decode cX3_refused 11 = .ok (.aload_n 0, 1) := by decide +kernel
theorem dX3_refused_12 : decode cX3_refused 12 = .ok (.getfield 9, 3) := by decide +kernel
theorem dX3_refused_15 : decode cX3_refused 15 = .ok (.iload_n 1, 1) := by decide +kernel
theorem dX3_refused_16 : decode cX3_refused 16 = .ok (.iaload, 1) := by decide +kernel
theorem dX3_refused_17 : decode cX3_refused 17 = .ok (.iload_n 2, 1) := by decide +kernel
theorem dX3_refused_18 : decode cX3_refused 18 = .ok (.if_icmp .eq 6, 3) := by decide +kernel
theorem dX3_refused_21 : decode cX3_refused 21 = .ok (.bipush (-12), 2) := by decide +kernel
theorem dX3_refused_23 : decode cX3_refused 23 = .ok (.ireturn, 1) := by decide +kernel
theorem dX3_refused_24 : decode cX3_refused 24 = .ok (.aload_n 0, 1) := by decide +kernel
theorem dX3_refused_25 : decode cX3_refused 25 = .ok (.iload_n 1, 1) := by decide +kernel
theorem dX3_refused_26 : decode cX3_refused 26 = .ok (.iload_n 3, 1) := by decide +kernel
theorem dX3_refused_27 : decode cX3_refused 27 = .ok (.iload 4, 2) := by decide +kernel
theorem dX3_refused_29 : decode cX3_refused 29 = .ok (.invokevirtual 26, 3) := by decide +kernel
theorem dX3_refused_32 : decode cX3_refused 32 = .ok (.ifCond .eq 7, 3) := by decide +kernel
theorem dX3_refused_35 : decode cX3_refused 35 = .ok (.iconst 0, 1) := by decide +kernel
theorem dX3_refused_36 : decode cX3_refused 36 = .ok (.goto 5, 3) := by decide +kernel
theorem dX3_refused_39 : decode cX3_refused 39 = .ok (.bipush (-13), 2) := by decide +kernel
theorem dX3_refused_41 : decode cX3_refused 41 = .ok (.ireturn, 1) := by decide +kernel
theorem dX3_renew_0 : decode cX3_renew 0 = .ok (.aload_n 0, 1) := by decide +kernel
theorem dX3_renew_1 : decode cX3_renew 1 = .ok (.getfield 9, 3) := by decide +kernel
theorem dX3_renew_4 : decode cX3_renew 4 = .ok (.iload_n 1, 1) := by decide +kernel
theorem dX3_renew_5 : decode cX3_renew 5 = .ok (.iload_n 2, 1) := by decide +kernel
theorem dX3_renew_6 : decode cX3_renew 6 = .ok (.iastore, 1) := by decide +kernel
theorem dX3_renew_7 : decode cX3_renew 7 = .ok (.aload_n 0, 1) := by decide +kernel
theorem dX3_renew_8 : decode cX3_renew 8 = .ok (.getfield 15, 3) := by decide +kernel
theorem dX3_renew_11 : decode cX3_renew 11 = .ok (.iload_n 1, 1) := by decide +kernel
theorem dX3_renew_12 : decode cX3_renew 12 = .ok (.iload_n 3, 1) := by decide +kernel
theorem dX3_renew_13 : decode cX3_renew 13 = .ok (.iastore, 1) := by decide +kernel
theorem dX3_renew_14 : decode cX3_renew 14 = .ok (.iconst 0, 1) := by decide +kernel
theorem dX3_renew_15 : decode cX3_renew 15 = .ok (.istore 4, 2) := by decide +kernel
theorem dX3_renew_17 : decode cX3_renew 17 = .ok (.iload 4, 2) := by decide +kernel
theorem dX3_renew_19 : decode cX3_renew 19 = .ok (.iload_n 3, 1) := by decide +kernel
theorem dX3_renew_20 : decode cX3_renew 20 = .ok (.if_icmp .ge 22, 3) := by decide +kernel
theorem dX3_renew_23 : decode cX3_renew 23 = .ok (.aload_n 0, 1) := by decide +kernel
theorem dX3_renew_24 : decode cX3_renew 24 = .ok (.getfield 18, 3) := by decide +kernel
theorem dX3_renew_27 : decode cX3_renew 27 = .ok (.iload_n 1, 1) := by decide +kernel
theorem dX3_renew_28 : decode cX3_renew 28 = .ok (.bipush 24, 2) := by decide +kernel
theorem dX3_renew_30 : decode cX3_renew 30 = .ok (.imul, 1) := by decide +kernel
theorem dX3_renew_31 : decode cX3_renew 31 = .ok (.iload 4, 2) := by decide +kernel
theorem dX3_renew_33 : decode cX3_renew 33 = .ok (.iadd, 1) := by decide +kernel
theorem dX3_renew_34 : decode cX3_renew 34 = .ok (.lconst 0, 1) := by decide +kernel
theorem dX3_renew_35 : decode cX3_renew 35 = .ok (.lastore, 1) := by decide +kernel
theorem dX3_renew_36 : decode cX3_renew 36 = .ok (.iinc 4 1, 3) := by decide +kernel
theorem dX3_renew_39 : decode cX3_renew 39 = .ok (.goto (-22), 3) := by decide +kernel
theorem dX3_renew_42 : decode cX3_renew 42 = .ok (.return_, 1) := by decide +kernel
theorem dX3_takeAway_0 : decode cX3_takeAway 0 = .ok (.aload_n 0, 1) := by decide +kernel
theorem dX3_takeAway_1 : decode cX3_takeAway 1 = .ok (.getfield 9, 3) := by decide +kernel
theorem dX3_takeAway_4 : decode cX3_takeAway 4 = .ok (.iload_n 1, 1) := by decide +kernel
theorem dX3_takeAway_5 : decode cX3_takeAway 5 = .ok (.bipush (-4), 2) := by decide +kernel
theorem dX3_takeAway_7 : decode cX3_takeAway 7 = .ok (.iastore, 1) := by decide +kernel
theorem dX3_takeAway_8 : decode cX3_takeAway 8 = .ok (.aload_n 0, 1) := by decide +kernel
theorem dX3_takeAway_9 : decode cX3_takeAway 9 = .ok (.getfield 15, 3) := by decide +kernel
theorem dX3_takeAway_12 : decode cX3_takeAway 12 = .ok (.iload_n 1, 1) := by decide +kernel
theorem dX3_takeAway_13 : decode cX3_takeAway 13 = .ok (.iaload, 1) := by decide +kernel
theorem dX3_takeAway_14 : decode cX3_takeAway 14 = .ok (.ireturn, 1) := by decide +kernel
theorem dX3_itemOf_0 : decode cX3_itemOf 0 = .ok (.aload_n 0, 1) := by decide +kernel
theorem dX3_itemOf_1 : decode cX3_itemOf 1 = .ok (.getfield 18, 3) := by decide +kernel
theorem dX3_itemOf_4 : decode cX3_itemOf 4 = .ok (.iload_n 1, 1) := by decide +kernel
theorem dX3_itemOf_5 : decode cX3_itemOf 5 = .ok (.bipush 24, 2) := by decide +kernel
theorem dX3_itemOf_7 : decode cX3_itemOf 7 = .ok (.imul, 1) := by decide +kernel
theorem dX3_itemOf_8 : decode cX3_itemOf 8 = .ok (.iload_n 2, 1) := by decide +kernel
theorem dX3_itemOf_9 : decode cX3_itemOf 9 = .ok (.iadd, 1) := by decide +kernel
theorem dX3_itemOf_10 : decode cX3_itemOf 10 = .ok (.laload, 1) := by decide +kernel
theorem dX3_itemOf_11 : decode cX3_itemOf 11 = .ok (.lreturn, 1) := by decide +kernel
theorem dX3_put_0 : decode cX3_put 0 = .ok (.aload_n 0, 1) := by decide +kernel
theorem dX3_put_1 : decode cX3_put 1 = .ok (.getfield 18, 3) := by decide +kernel
theorem dX3_put_4 : decode cX3_put 4 = .ok (.iload_n 1, 1) := by decide +kernel
theorem dX3_put_5 : decode cX3_put 5 = .ok (.bipush 24, 2) := by decide +kernel
theorem dX3_put_7 : decode cX3_put 7 = .ok (.imul, 1) := by decide +kernel
theorem dX3_put_8 : decode cX3_put 8 = .ok (.iload_n 2, 1) := by decide +kernel
theorem dX3_put_9 : decode cX3_put 9 = .ok (.iadd, 1) := by decide +kernel
theorem dX3_put_10 : decode cX3_put 10 = .ok (.aload_n 0, 1) := by decide +kernel
theorem dX3_put_11 : decode cX3_put 11 = .ok (.getfield 9, 3) := by decide +kernel
theorem dX3_put_14 : decode cX3_put 14 = .ok (.iload_n 1, 1) := by decide +kernel
theorem dX3_put_15 : decode cX3_put 15 = .ok (.iaload, 1) := by decide +kernel
theorem dX3_put_16 : decode cX3_put 16 = .ok (.lload_n 3, 1) := by decide +kernel
theorem dX3_put_17 : decode cX3_put 17 = .ok (.invokestatic 30, 3) := by decide +kernel
theorem dX3_put_20 : decode cX3_put 20 = .ok (.lastore, 1) := by decide +kernel
theorem dX3_put_21 : decode cX3_put 21 = .ok (.return_, 1) := by decide +kernel
theorem dX3_carry_0 : decode cX3_carry 0 = .ok (.aload_n 0, 1) := by decide +kernel
theorem dX3_carry_1 : decode cX3_carry 1 = .ok (.getfield 18, 3) := by decide +kernel
theorem dX3_carry_4 : decode cX3_carry 4 = .ok (.iload_n 1, 1) := by decide +kernel
theorem dX3_carry_5 : decode cX3_carry 5 = .ok (.bipush 24, 2) := by decide +kernel
theorem dX3_carry_7 : decode cX3_carry 7 = .ok (.imul, 1) := by decide +kernel
theorem dX3_carry_8 : decode cX3_carry 8 = .ok (.iload_n 2, 1) := by decide +kernel
theorem dX3_carry_9 : decode cX3_carry 9 = .ok (.iadd, 1) := by decide +kernel
theorem dX3_carry_10 : decode cX3_carry 10 = .ok (.aload_n 0, 1) := by decide +kernel
theorem dX3_carry_11 : decode cX3_carry 11 = .ok (.getfield 18, 3) := by decide +kernel
theorem dX3_carry_14 : decode cX3_carry 14 = .ok (.iload_n 3, 1) := by decide +kernel
theorem dX3_carry_15 : decode cX3_carry 15 = .ok (.bipush 24, 2) := by decide +kernel
theorem dX3_carry_17 : decode cX3_carry 17 = .ok (.imul, 1) := by decide +kernel
theorem dX3_carry_18 : decode cX3_carry 18 = .ok (.iload 4, 2) := by decide +kernel
theorem dX3_carry_20 : decode cX3_carry 20 = .ok (.iadd, 1) := by decide +kernel
theorem dX3_carry_21 : decode cX3_carry 21 = .ok (.iload 5, 2) := by decide +kernel
theorem dX3_carry_23 : decode cX3_carry 23 = .ok (.invokestatic 34, 3) := by decide +kernel
theorem dX3_carry_26 : decode cX3_carry 26 = .ok (.return_, 1) := by decide +kernel
theorem dX3_lowestBits_0 : decode cX3_lowestBits 0 = .ok (.iload_n 0, 1) := by decide +kernel
theorem dX3_lowestBits_1 : decode cX3_lowestBits 1 = .ok (.tableswitch 41 0 2 #[27, 32, 37], 27) := by decide +kernel
theorem dX3_lowestBits_28 : decode cX3_lowestBits 28 = .ok (.lload_n 1, 1) := by decide +kernel
theorem dX3_lowestBits_29 : decode cX3_lowestBits 29 = .ok (.l2i, 1) := by decide +kernel
theorem dX3_lowestBits_30 : decode cX3_lowestBits 30 = .ok (.i2b, 1) := by decide +kernel
theorem dX3_lowestBits_31 : decode cX3_lowestBits 31 = .ok (.i2l, 1) := by decide +kernel
theorem dX3_lowestBits_32 : decode cX3_lowestBits 32 = .ok (.lreturn, 1) := by decide +kernel
theorem dX3_lowestBits_33 : decode cX3_lowestBits 33 = .ok (.lload_n 1, 1) := by decide +kernel
theorem dX3_lowestBits_34 : decode cX3_lowestBits 34 = .ok (.l2i, 1) := by decide +kernel
theorem dX3_lowestBits_35 : decode cX3_lowestBits 35 = .ok (.i2s, 1) := by decide +kernel
theorem dX3_lowestBits_36 : decode cX3_lowestBits 36 = .ok (.i2l, 1) := by decide +kernel
theorem dX3_lowestBits_37 : decode cX3_lowestBits 37 = .ok (.lreturn, 1) := by decide +kernel
theorem dX3_lowestBits_38 : decode cX3_lowestBits 38 = .ok (.lload_n 1, 1) := by decide +kernel
theorem dX3_lowestBits_39 : decode cX3_lowestBits 39 = .ok (.l2i, 1) := by decide +kernel
theorem dX3_lowestBits_40 : decode cX3_lowestBits 40 = .ok (.i2l, 1) := by decide +kernel
theorem dX3_lowestBits_41 : decode cX3_lowestBits 41 = .ok (.lreturn, 1) := by decide +kernel
theorem dX3_lowestBits_42 : decode cX3_lowestBits 42 = .ok (.lload_n 1, 1) := by decide +kernel
theorem dX3_lowestBits_43 : decode cX3_lowestBits 43 = .ok (.lreturn, 1) := by decide +kernel
theorem dX4_init_0 : decode cX4_init 0 = .ok (.aload_n 0, 1) := by decide +kernel
theorem dX4_init_1 : decode cX4_init 1 = .ok (.invokespecial 3, 3) := by decide +kernel
theorem dX4_init_4 : decode cX4_init 4 = .ok (.aload_n 0, 1) := by decide +kernel
theorem dX4_init_5 : decode cX4_init 5 = .ok (.bipush 60, 2) := by decide +kernel
theorem dX4_init_7 : decode cX4_init 7 = .ok (.newarray .int, 2) := by decide +kernel
theorem dX4_init_9 : decode cX4_init 9 = .ok (.putfield 11, 3) := by decide +kernel
theorem dX4_init_12 : decode cX4_init 12 = .ok (.return_, 1) := by decide +kernel
theorem dX4_isFull_0 : decode cX4_isFull 0 = .ok (.aload_n 0, 1) := by decide +kernel
theorem dX4_isFull_1 : decode cX4_isFull 1 = .ok (.getfield 15, 3) := by decide +kernel
theorem dX4_isFull_4 : decode cX4_isFull 4 = .ok (.bipush 60, 2) := by decide +kernel
theorem dX4_isFull_6 : decode cX4_isFull 6 = .ok (.if_icmp .lt 7, 3) := by decide +kernel
theorem dX4_isFull_9 : decode cX4_isFull 9 = .ok (.iconst 1, 1) := by decide +kernel
theorem dX4_isFull_10 : decode cX4_isFull 10 = .ok (.goto 4, 3) := by decide +kernel
theorem dX4_isFull_13 : decode cX4_isFull 13 = .ok (.iconst 0, 1) := by decide +kernel
theorem dX4_isFull_14 : decode cX4_isFull 14 = .ok (.ireturn, 1) := by decide +kernel
theorem dX4_put_0 : decode cX4_put 0 = .ok (.aload_n 0, 1) := by decide +kernel
theorem dX4_put_1 : decode cX4_put 1 = .ok (.getfield 15, 3) := by decide +kernel
theorem dX4_put_4 : decode cX4_put 4 = .ok (.bipush 60, 2) := by decide +kernel
theorem dX4_put_6 : decode cX4_put 6 = .ok (.if_icmp .ge 23, 3) := by decide +kernel
theorem dX4_put_9 : decode cX4_put 9 = .ok (.aload_n 0, 1) := by decide +kernel
theorem dX4_put_10 : decode cX4_put 10 = .ok (.getfield 11, 3) := by decide +kernel
theorem dX4_put_13 : decode cX4_put 13 = .ok (.aload_n 0, 1) := by decide +kernel
theorem dX4_put_14 : decode cX4_put 14 = .ok (.getfield 15, 3) := by decide +kernel
theorem dX4_put_17 : decode cX4_put 17 = .ok (.iload_n 1, 1) := by decide +kernel
theorem dX4_put_18 : decode cX4_put 18 = .ok (.iastore, 1) := by decide +kernel
theorem dX4_put_19 : decode cX4_put 19 = .ok (.aload_n 0, 1) := by decide +kernel
theorem dX4_put_20 : decode cX4_put 20 = .ok (.dup, 1) := by decide +kernel
theorem dX4_put_21 : decode cX4_put 21 = .ok (.getfield 15, 3) := by decide +kernel
theorem dX4_put_24 : decode cX4_put 24 = .ok (.iconst 1, 1) := by decide +kernel
theorem dX4_put_25 : decode cX4_put 25 = .ok (.iadd, 1) := by decide +kernel
theorem dX4_put_26 : decode cX4_put 26 = .ok (.putfield 15, 3) := by decide +kernel
theorem dX4_put_29 : decode cX4_put 29 = .ok (.aload_n 0, 1) := by decide +kernel
theorem dX4_put_30 : decode cX4_put 30 = .ok (.getfield 15, 3) := by decide +kernel
theorem dX4_put_33 : decode cX4_put 33 = .ok (.ireturn, 1) := by decide +kernel
theorem dX4_wipe_0 : decode cX4_wipe 0 = .ok (.aload_n 0, 1) := by decide +kernel
theorem dX4_wipe_1 : decode cX4_wipe 1 = .ok (.iconst 0, 1) := by decide +kernel
theorem dX4_wipe_2 : decode cX4_wipe 2 = .ok (.putfield 15, 3) := by decide +kernel
theorem dX4_wipe_5 : decode cX4_wipe 5 = .ok (.return_, 1) := by decide +kernel
theorem dX4_readInto_0 : decode cX4_readInto 0 = .ok (.aload_n 0, 1) := by decide +kernel
theorem dX4_readInto_1 : decode cX4_readInto 1 = .ok (.iconst 0, 1) := by decide +kernel
theorem dX4_readInto_2 : decode cX4_readInto 2 = .ok (.putfield 19, 3) := by decide +kernel
theorem dX4_readInto_5 : decode cX4_readInto 5 = .ok (.aload_n 1, 1) := by decide +kernel
theorem dX4_readInto_6 : decode cX4_readInto 6 = .ok (.invokevirtual 22, 3) := by decide +kernel
theorem dX4_readInto_9 : decode cX4_readInto 9 = .ok (.aload_n 0, 1) := by decide +kernel
theorem dX4_readInto_10 : decode cX4_readInto 10 = .ok (.aload_n 1, 1) := by decide +kernel
theorem dX4_readInto_11 : decode cX4_readInto 11 = .ok (.invokevirtual 27, 3) := by decide +kernel
theorem dX4_readInto_14 : decode cX4_readInto 14 = .ok (.ifCond .eq 22, 3) := by decide +kernel
theorem dX4_readInto_17 : decode cX4_readInto 17 = .ok (.aload_n 0, 1) := by decide +kernel
theorem dX4_readInto_18 : decode cX4_readInto 18 = .ok (.aload_n 1, 1) := by decide +kernel
theorem dX4_readInto_19 : decode cX4_readInto 19 = .ok (.invokevirtual 31, 3) := by decide +kernel
theorem dX4_readInto_22 : decode cX4_readInto 22 = .ok (.ifCond .eq 14, 3) := by decide +kernel
theorem dX4_readInto_25 : decode cX4_readInto 25 = .ok (.aload_n 0, 1) := by decide +kernel
theorem dX4_readInto_26 : decode cX4_readInto 26 = .ok (.invokevirtual 34, 3) := by decide +kernel
theorem dX4_readInto_29 : decode cX4_readInto 29 = .ok (.ifCond .ne 7, 3) := by decide +kernel
theorem dX4_readInto_32 : decode cX4_readInto 32 = .ok (.iconst 1, 1) := by decide +kernel
theorem dX4_readInto_33 : decode cX4_readInto 33 = .ok (.goto 4, 3) := by decide +kernel
theorem dX4_readInto_36 : decode cX4_readInto 36 = .ok (.iconst 0, 1) := by decide +kernel
theorem dX4_readInto_37 : decode cX4_readInto 37 = .ok (.ireturn, 1) := by decide +kernel
theorem dX4_readPlaces_0 : decode cX4_readPlaces 0 = .ok (.iconst 0, 1) := by decide +kernel
theorem dX4_readPlaces_1 : decode cX4_readPlaces 1 = .ok (.istore_n 2, 1) := by decide +kernel
theorem dX4_readPlaces_2 : decode cX4_readPlaces 2 = .ok (.iload_n 2, 1) := by decide +kernel
theorem dX4_readPlaces_3 : decode cX4_readPlaces 3 = .ok (.bipush 8, 2) := by decide +kernel
theorem dX4_readPlaces_5 : decode cX4_readPlaces 5 = .ok (.if_icmp .ge 38, 3) := by decide +kernel
theorem dX4_readPlaces_8 : decode cX4_readPlaces 8 = .ok (.aload_n 0, 1) := by decide +kernel
theorem dX4_readPlaces_9 : decode cX4_readPlaces 9 = .ok (.bipush 42, 2) := by decide +kernel
theorem dX4_readPlaces_11 : decode cX4_readPlaces 11 = .ok (.invokevirtual 38, 3) := by decide +kernel
theorem dX4_readPlaces_14 : decode cX4_readPlaces 14 = .ok (.ifCond .eq 12, 3) := by decide +kernel
theorem dX4_readPlaces_17 : decode cX4_readPlaces 17 = .ok (.aload_n 1, 1) := by decide +kernel
theorem dX4_readPlaces_18 : decode cX4_readPlaces 18 = .ok (.iload_n 2, 1) := by decide +kernel
theorem dX4_readPlaces_19 : decode cX4_readPlaces 19 = .ok (.invokevirtual 42, 3) := by decide +kernel
theorem dX4_readPlaces_22 : decode cX4_readPlaces 22 = .ok (.pop, 1) := by decide +kernel
theorem dX4_readPlaces_23 : decode cX4_readPlaces 23 = .ok (.goto 14, 3) := by decide +kernel
theorem dX4_readPlaces_26 : decode cX4_readPlaces 26 = .ok (.aload_n 0, 1) := by decide +kernel
theorem dX4_readPlaces_27 : decode cX4_readPlaces 27 = .ok (.bipush 46, 2) := by decide +kernel
theorem dX4_readPlaces_29 : decode cX4_readPlaces 29 = .ok (.invokevirtual 38, 3) := by decide +kernel
theorem dX4_readPlaces_32 : decode cX4_readPlaces 32 = .ok (.ifCond .ne 5, 3) := by decide +kernel
theorem dX4_readPlaces_35 : decode cX4_readPlaces 35 = .ok (.iconst 0, 1) := by decide +kernel
theorem dX4_readPlaces_36 : decode cX4_readPlaces 36 = .ok (.ireturn, 1) := by decide +kernel
theorem dX4_readPlaces_37 : decode cX4_readPlaces 37 = .ok (.iinc 2 1, 3) := by decide +kernel
theorem dX4_readPlaces_40 : decode cX4_readPlaces 40 = .ok (.goto (-38), 3) := by decide +kernel
theorem dX4_readPlaces_43 : decode cX4_readPlaces 43 = .ok (.iconst 1, 1) := by decide +kernel
theorem dX4_readPlaces_44 : decode cX4_readPlaces 44 = .ok (.ireturn, 1) := by decide +kernel
theorem dX4_readFigures_0 : decode cX4_readFigures 0 = .ok (.aload_n 0, 1) := by decide +kernel
theorem dX4_readFigures_1 : decode cX4_readFigures 1 = .ok (.bipush 59, 2) := by decide +kernel
theorem dX4_readFigures_3 : decode cX4_readFigures 3 = .ok (.invokevirtual 38, 3) := by decide +kernel
theorem dX4_readFigures_6 : decode cX4_readFigures 6 = .ok (.ifCond .ne 5, 3) := by decide +kernel
theorem dX4_readFigures_9 : decode cX4_readFigures 9 = .ok (.iconst 1, 1) := by decide +kernel
theorem dX4_readFigures_10 : decode cX4_readFigures 10 = .ok (.ireturn, 1) := by decide +kernel
theorem dX4_readFigures_11 : decode cX4_readFigures 11 = .ok (.iconst 0, 1) := by decide +kernel
theorem dX4_readFigures_12 : decode cX4_readFigures 12 = .ok (.istore_n 2, 1) := by decide +kernel
theorem dX4_readFigures_13 : decode cX4_readFigures 13 = .ok (.iload_n 2, 1) := by decide +kernel
theorem dX4_readFigures_14 : decode cX4_readFigures 14 = .ok (.iconst 5, 1) := by decide +kernel
theorem dX4_readFigures_15 : decode cX4_readFigures 15 = .ok (.if_icmp .ge 35, 3) := by decide +kernel
theorem dX4_readFigures_18 : decode cX4_readFigures 18 = .ok (.iload_n 2, 1) := by decide +kernel
theorem dX4_readFigures_19 : decode cX4_readFigures 19 = .ok (.ifCond .le 15, 3) := by decide +kernel
theorem dX4_readFigures_22 : decode cX4_readFigures 22 = .ok (.aload_n 0, 1) := by decide +kernel
theorem dX4_readFigures_23 : decode cX4_readFigures 23 = .ok (.bipush 44, 2) := by decide +kernel
theorem dX4_readFigures_25 : decode cX4_readFigures 25 = .ok (.invokevirtual 38, 3) := by decide +kernel
theorem dX4_readFigures_28 : decode cX4_readFigures 28 = .ok (.ifCond .ne 6, 3) := by decide +kernel
theorem dX4_readFigures_31 : decode cX4_readFigures 31 = .ok (.goto 19, 3) := by decide +kernel
theorem dX4_readFigures_34 : decode cX4_readFigures 34 = .ok (.aload_n 0, 1) := by decide +kernel
theorem dX4_readFigures_35 : decode cX4_readFigures 35 = .ok (.aload_n 1, 1) := by decide +kernel
theorem dX4_readFigures_36 : decode cX4_readFigures 36 = .ok (.invokevirtual 46, 3) := by decide +kernel
theorem dX4_readFigures_39 : decode cX4_readFigures 39 = .ok (.ifCond .ne 5, 3) := by decide +kernel
theorem dX4_readFigures_42 : decode cX4_readFigures 42 = .ok (.iconst 0, 1) := by decide +kernel
theorem dX4_readFigures_43 : decode cX4_readFigures 43 = .ok (.ireturn, 1) := by decide +kernel
theorem dX4_readFigures_44 : decode cX4_readFigures 44 = .ok (.iinc 2 1, 3) := by decide +kernel
theorem dX4_readFigures_47 : decode cX4_readFigures 47 = .ok (.goto (-34), 3) := by decide +kernel
theorem dX4_readFigures_50 : decode cX4_readFigures 50 = .ok (.aload_n 0, 1) := by decide +kernel
theorem dX4_readFigures_51 : decode cX4_readFigures 51 = .ok (.aload_n 1, 1) := by decide +kernel
theorem dX4_readFigures_52 : decode cX4_readFigures 52 = .ok (.invokevirtual 49, 3) := by decide +kernel
theorem dX4_readFigures_55 : decode cX4_readFigures 55 = .ok (.ireturn, 1) := by decide +kernel
theorem dX4_readFigure_0 : decode cX4_readFigure 0 = .ok (.aload_n 0, 1) := by decide +kernel
theorem dX4_readFigure_1 : decode cX4_readFigure 1 = .ok (.invokevirtual 34, 3) := by decide +kernel
theorem dX4_readFigure_4 : decode cX4_readFigure 4 = .ok (.invokestatic 52, 3) := by decide +kernel
theorem dX4_readFigure_7 : decode cX4_readFigure 7 = .ok (.istore_n 2, 1) := by decide +kernel
theorem dX4_readFigure_8 : decode cX4_readFigure 8 = .ok (.iload_n 2, 1) := by decide +kernel
theorem dX4_readFigure_9 : decode cX4_readFigure 9 = .ok (.bipush (-4), 2) := by decide +kernel
theorem dX4_readFigure_11 : decode cX4_readFigure 11 = .ok (.if_icmp .ne 5, 3) := by decide +kernel
theorem dX4_readFigure_14 : decode cX4_readFigure 14 = .ok (.iconst 0, 1) := by decide +kernel
theorem dX4_readFigure_15 : decode cX4_readFigure 15 = .ok (.ireturn, 1) := by decide +kernel
theorem dX4_readFigure_16 : decode cX4_readFigure 16 = .ok (.aload_n 0, 1) := by decide +kernel
theorem dX4_readFigure_17 : decode cX4_readFigure 17 = .ok (.dup, 1) := by decide +kernel
theorem dX4_readFigure_18 : decode cX4_readFigure 18 = .ok (.getfield 19, 3) := by decide +kernel
theorem dX4_readFigure_21 : decode cX4_readFigure 21 = .ok (.iconst 1, 1) := by decide +kernel
theorem dX4_readFigure_22 : decode cX4_readFigure 22 = .ok (.iadd, 1) := by decide +kernel
theorem dX4_readFigure_23 : decode cX4_readFigure 23 = .ok (.putfield 19, 3) := by decide +kernel
theorem dX4_readFigure_26 : decode cX4_readFigure 26 = .ok (.aload_n 0, 1) := by decide +kernel
theorem dX4_readFigure_27 : decode cX4_readFigure 27 = .ok (.bipush 8, 2) := by decide +kernel
theorem dX4_readFigure_29 : decode cX4_readFigure 29 = .ok (.invokevirtual 55, 3) := by decide +kernel
theorem dX4_readFigure_32 : decode cX4_readFigure 32 = .ok (.istore_n 3, 1) := by decide +kernel
theorem dX4_readFigure_33 : decode cX4_readFigure 33 = .ok (.iload_n 3, 1) := by decide +kernel
theorem dX4_readFigure_34 : decode cX4_readFigure 34 = .ok (.bipush (-4), 2) := by decide +kernel
theorem dX4_readFigure_36 : decode cX4_readFigure 36 = .ok (.if_icmp .ne 5, 3) := by decide +kernel
theorem dX4_readFigure_39 : decode cX4_readFigure 39 = .ok (.iconst 0, 1) := by decide +kernel
theorem dX4_readFigure_40 : decode cX4_readFigure 40 = .ok (.ireturn, 1) := by decide +kernel
theorem dX4_readFigure_41 : decode cX4_readFigure 41 = .ok (.aload_n 1, 1) := by decide +kernel
theorem dX4_readFigure_42 : decode cX4_readFigure 42 = .ok (.iload_n 2, 1) := by decide +kernel
theorem dX4_readFigure_43 : decode cX4_readFigure 43 = .ok (.iload_n 3, 1) := by decide +kernel
theorem dX4_readFigure_44 : decode cX4_readFigure 44 = .ok (.invokevirtual 58, 3) := by decide +kernel
theorem dX4_readFigure_47 : decode cX4_readFigure 47 = .ok (.pop, 1) := by decide +kernel
theorem dX4_readFigure_48 : decode cX4_readFigure 48 = .ok (.iconst 1, 1) := by decide +kernel
theorem dX4_readFigure_49 : decode cX4_readFigure 49 = .ok (.ireturn, 1) := by decide +kernel
theorem dX4_readTune_0 : decode cX4_readTune 0 = .ok (.aload_n 0, 1) := by decide +kernel
theorem dX4_readTune_1 : decode cX4_readTune 1 = .ok (.bipush 58, 2) := by decide +kernel
theorem dX4_readTune_3 : decode cX4_readTune 3 = .ok (.invokevirtual 38, 3) := by decide +kernel
theorem dX4_readTune_6 : decode cX4_readTune 6 = .ok (.ifCond .ne 5, 3) := by decide +kernel
theorem dX4_readTune_9 : decode cX4_readTune 9 = .ok (.iconst 1, 1) := by decide +kernel
theorem dX4_readTune_10 : decode cX4_readTune 10 = .ok (.ireturn, 1) := by decide +kernel
theorem dX4_readTune_11 : decode cX4_readTune 11 = .ok (.iconst 0, 1) := by decide +kernel
theorem dX4_readTune_12 : decode cX4_readTune 12 = .ok (.istore_n 2, 1) := by decide +kernel
theorem dX4_readTune_13 : decode cX4_readTune 13 = .ok (.iload_n 2, 1) := by decide +kernel
theorem dX4_readTune_14 : decode cX4_readTune 14 = .ok (.bipush 16, 2) := by decide +kernel
theorem dX4_readTune_16 : decode cX4_readTune 16 = .ok (.if_icmp .ge 33, 3) := by decide +kernel
theorem dX4_readTune_19 : decode cX4_readTune 19 = .ok (.aload_n 0, 1) := by decide +kernel
theorem dX4_readTune_20 : decode cX4_readTune 20 = .ok (.aload_n 1, 1) := by decide +kernel
theorem dX4_readTune_21 : decode cX4_readTune 21 = .ok (.getfield 62, 3) := by decide +kernel
theorem dX4_readTune_24 : decode cX4_readTune 24 = .ok (.invokevirtual 55, 3) := by decide +kernel
theorem dX4_readTune_27 : decode cX4_readTune 27 = .ok (.istore_n 3, 1) := by decide +kernel
theorem dX4_readTune_28 : decode cX4_readTune 28 = .ok (.iload_n 3, 1) := by decide +kernel
theorem dX4_readTune_29 : decode cX4_readTune 29 = .ok (.bipush (-4), 2) := by decide +kernel
theorem dX4_readTune_31 : decode cX4_readTune 31 = .ok (.if_icmp .ne 6, 3) := by decide +kernel
theorem dX4_readTune_34 : decode cX4_readTune 34 = .ok (.goto 15, 3) := by decide +kernel
theorem dX4_readTune_37 : decode cX4_readTune 37 = .ok (.aload_n 1, 1) := by decide +kernel
theorem dX4_readTune_38 : decode cX4_readTune 38 = .ok (.iload_n 3, 1) := by decide +kernel
theorem dX4_readTune_39 : decode cX4_readTune 39 = .ok (.invokevirtual 65, 3) := by decide +kernel
theorem dX4_readTune_42 : decode cX4_readTune 42 = .ok (.pop, 1) := by decide +kernel
theorem dX4_readTune_43 : decode cX4_readTune 43 = .ok (.iinc 2 1, 3) := by decide +kernel
theorem dX4_readTune_46 : decode cX4_readTune 46 = .ok (.goto (-33), 3) := by decide +kernel
theorem dX4_readTune_49 : decode cX4_readTune 49 = .ok (.aload_n 1, 1) := by decide +kernel
theorem dX4_readTune_50 : decode cX4_readTune 50 = .ok (.getfield 68, 3) := by decide +kernel
theorem dX4_readTune_53 : decode cX4_readTune 53 = .ok (.ifCond .le 7, 3) := by decide +kernel
theorem dX4_readTune_56 : decode cX4_readTune 56 = .ok (.iconst 1, 1) := by decide +kernel
theorem dX4_readTune_57 : decode cX4_readTune 57 = .ok (.goto 4, 3) := by decide +kernel
theorem dX4_readTune_60 : decode cX4_readTune 60 = .ok (.iconst 0, 1) := by decide +kernel
theorem dX4_readTune_61 : decode cX4_readTune 61 = .ok (.ireturn, 1) := by decide +kernel
theorem dX4_next_0 : decode cX4_next 0 = .ok (.aload_n 0, 1) := by decide +kernel
theorem dX4_next_1 : decode cX4_next 1 = .ok (.getfield 19, 3) := by decide +kernel
theorem dX4_next_4 : decode cX4_next 4 = .ok (.aload_n 0, 1) := by decide +kernel
theorem dX4_next_5 : decode cX4_next 5 = .ok (.getfield 15, 3) := by decide +kernel
theorem dX4_next_8 : decode cX4_next 8 = .ok (.if_icmp .ge 30, 3) := by decide +kernel
theorem dX4_next_11 : decode cX4_next 11 = .ok (.aload_n 0, 1) := by decide +kernel
theorem dX4_next_12 : decode cX4_next 12 = .ok (.getfield 11, 3) := by decide +kernel
theorem dX4_next_15 : decode cX4_next 15 = .ok (.aload_n 0, 1) := by decide +kernel
theorem dX4_next_16 : decode cX4_next 16 = .ok (.getfield 19, 3) := by decide +kernel
theorem dX4_next_19 : decode cX4_next 19 = .ok (.iaload, 1) := by decide +kernel
theorem dX4_next_20 : decode cX4_next 20 = .ok (.bipush 32, 2) := by decide +kernel
theorem dX4_next_22 : decode cX4_next 22 = .ok (.if_icmp .ne 16, 3) := by decide +kernel
theorem dX4_next_25 : decode cX4_next 25 = .ok (.aload_n 0, 1) := by decide +kernel
theorem dX4_next_26 : decode cX4_next 26 = .ok (.dup, 1) := by decide +kernel
theorem dX4_next_27 : decode cX4_next 27 = .ok (.getfield 19, 3) := by decide +kernel
theorem dX4_next_30 : decode cX4_next 30 = .ok (.iconst 1, 1) := by decide +kernel
theorem dX4_next_31 : decode cX4_next 31 = .ok (.iadd, 1) := by decide +kernel
theorem dX4_next_32 : decode cX4_next 32 = .ok (.putfield 19, 3) := by decide +kernel
theorem dX4_next_35 : decode cX4_next 35 = .ok (.goto (-35), 3) := by decide +kernel
theorem dX4_next_38 : decode cX4_next 38 = .ok (.aload_n 0, 1) := by decide +kernel
theorem dX4_next_39 : decode cX4_next 39 = .ok (.getfield 19, 3) := by decide +kernel
theorem dX4_next_42 : decode cX4_next 42 = .ok (.aload_n 0, 1) := by decide +kernel
theorem dX4_next_43 : decode cX4_next 43 = .ok (.getfield 15, 3) := by decide +kernel
theorem dX4_next_46 : decode cX4_next 46 = .ok (.if_icmp .ge 15, 3) := by decide +kernel
theorem dX4_next_49 : decode cX4_next 49 = .ok (.aload_n 0, 1) := by decide +kernel
theorem dX4_next_50 : decode cX4_next 50 = .ok (.getfield 11, 3) := by decide +kernel
theorem dX4_next_53 : decode cX4_next 53 = .ok (.aload_n 0, 1) := by decide +kernel
theorem dX4_next_54 : decode cX4_next 54 = .ok (.getfield 19, 3) := by decide +kernel
theorem dX4_next_57 : decode cX4_next 57 = .ok (.iaload, 1) := by decide +kernel
theorem dX4_next_58 : decode cX4_next 58 = .ok (.goto 4, 3) := by decide +kernel
theorem dX4_next_61 : decode cX4_next 61 = .ok (.iconst 0, 1) := by decide +kernel
theorem dX4_next_62 : decode cX4_next 62 = .ok (.ireturn, 1) := by decide +kernel
theorem dX4_takes_0 : decode cX4_takes 0 = .ok (.aload_n 0, 1) := by decide +kernel
theorem dX4_takes_1 : decode cX4_takes 1 = .ok (.invokevirtual 34, 3) := by decide +kernel
theorem dX4_takes_4 : decode cX4_takes 4 = .ok (.iload_n 1, 1) := by decide +kernel
theorem dX4_takes_5 : decode cX4_takes 5 = .ok (.if_icmp .eq 5, 3) := by decide +kernel
theorem dX4_takes_8 : decode cX4_takes 8 = .ok (.iconst 0, 1) := by decide +kernel
theorem dX4_takes_9 : decode cX4_takes 9 = .ok (.ireturn, 1) := by decide +kernel
theorem dX4_takes_10 : decode cX4_takes 10 = .ok (.aload_n 0, 1) := by decide +kernel
theorem dX4_takes_11 : decode cX4_takes 11 = .ok (.dup, 1) := by decide +kernel
theorem dX4_takes_12 : decode cX4_takes 12 = .ok (.getfield 19, 3) := by decide +kernel
theorem dX4_takes_15 : decode cX4_takes 15 = .ok (.iconst 1, 1) := by decide +kernel
theorem dX4_takes_16 : decode cX4_takes 16 = .ok (.iadd, 1) := by decide +kernel
theorem dX4_takes_17 : decode cX4_takes 17 = .ok (.putfield 19, 3) := by decide +kernel
theorem dX4_takes_20 : decode cX4_takes 20 = .ok (.iconst 1, 1) := by decide +kernel
theorem dX4_takes_21 : decode cX4_takes 21 = .ok (.ireturn, 1) := by decide +kernel
theorem dX4_takeDigit_0 : decode cX4_takeDigit 0 = .ok (.aload_n 0, 1) := by decide +kernel
theorem dX4_takeDigit_1 : decode cX4_takeDigit 1 = .ok (.invokevirtual 34, 3) := by decide +kernel
theorem dX4_takeDigit_4 : decode cX4_takeDigit 4 = .ok (.bipush 48, 2) := by decide +kernel
theorem dX4_takeDigit_6 : decode cX4_takeDigit 6 = .ok (.isub, 1) := by decide +kernel
theorem dX4_takeDigit_7 : decode cX4_takeDigit 7 = .ok (.istore_n 2, 1) := by decide +kernel
theorem dX4_takeDigit_8 : decode cX4_takeDigit 8 = .ok (.iload_n 2, 1) := by decide +kernel
theorem dX4_takeDigit_9 : decode cX4_takeDigit 9 = .ok (.ifCond .lt 8, 3) := by decide +kernel
theorem dX4_takeDigit_12 : decode cX4_takeDigit 12 = .ok (.iload_n 2, 1) := by decide +kernel
theorem dX4_takeDigit_13 : decode cX4_takeDigit 13 = .ok (.iload_n 1, 1) := by decide +kernel
theorem dX4_takeDigit_14 : decode cX4_takeDigit 14 = .ok (.if_icmp .lt 6, 3) := by decide +kernel
theorem dX4_takeDigit_17 : decode cX4_takeDigit 17 = .ok (.bipush (-4), 2) := by decide +kernel
theorem dX4_takeDigit_19 : decode cX4_takeDigit 19 = .ok (.ireturn, 1) := by decide +kernel
theorem dX4_takeDigit_20 : decode cX4_takeDigit 20 = .ok (.aload_n 0, 1) := by decide +kernel
theorem dX4_takeDigit_21 : decode cX4_takeDigit 21 = .ok (.dup, 1) := by decide +kernel
theorem dX4_takeDigit_22 : decode cX4_takeDigit 22 = .ok (.getfield 19, 3) := by decide +kernel
theorem dX4_takeDigit_25 : decode cX4_takeDigit 25 = .ok (.iconst 1, 1) := by decide +kernel
theorem dX4_takeDigit_26 : decode cX4_takeDigit 26 = .ok (.iadd, 1) := by decide +kernel
theorem dX4_takeDigit_27 : decode cX4_takeDigit 27 = .ok (.putfield 19, 3) := by decide +kernel
theorem dX4_takeDigit_30 : decode cX4_takeDigit 30 = .ok (.iload_n 2, 1) := by decide +kernel
theorem dX4_takeDigit_31 : decode cX4_takeDigit 31 = .ok (.ireturn, 1) := by decide +kernel
theorem dX4_kindOf_0 : decode cX4_kindOf 0 = .ok (.iload_n 0, 1) := by decide +kernel
theorem dX4_kindOf_1 : decode cX4_kindOf 1 = .ok (.lookupswitch 61 #[(99, 59), (101, 53), (104, 57), (109, 55), (114, 51)], 51) := by decide +kernel
theorem dX4_kindOf_52 : decode cX4_kindOf 52 = .ok (.iconst 0, 1) := by decide +kernel
theorem dX4_kindOf_53 : decode cX4_kindOf 53 = .ok (.ireturn, 1) := by decide +kernel
theorem dX4_kindOf_54 : decode cX4_kindOf 54 = .ok (.iconst 1, 1) := by decide +kernel
theorem dX4_kindOf_55 : decode cX4_kindOf 55 = .ok (.ireturn, 1) := by decide +kernel
theorem dX4_kindOf_56 : decode cX4_kindOf 56 = .ok (.iconst 2, 1) := by decide +kernel
theorem dX4_kindOf_57 : decode cX4_kindOf 57 = .ok (.ireturn, 1) := by decide +kernel
theorem dX4_kindOf_58 : decode cX4_kindOf 58 = .ok (.iconst 3, 1) := by decide +kernel
theorem dX4_kindOf_59 : decode cX4_kindOf 59 = .ok (.ireturn, 1) := by decide +kernel
theorem dX4_kindOf_60 : decode cX4_kindOf 60 = .ok (.iconst 4, 1) := by decide +kernel
theorem dX4_kindOf_61 : decode cX4_kindOf 61 = .ok (.ireturn, 1) := by decide +kernel
theorem dX4_kindOf_62 : decode cX4_kindOf 62 = .ok (.bipush (-4), 2) := by decide +kernel
theorem dX4_kindOf_64 : decode cX4_kindOf 64 = .ok (.ireturn, 1) := by decide +kernel
theorem dJ6_bitCount_0f7a4_0 : decode cJ6_bitCount_0f7a4 0 = .ok (.iload_n 0, 1) := by decide +kernel
theorem dJ6_bitCount_0f7a4_1 : decode cJ6_bitCount_0f7a4 1 = .ok (.iload_n 0, 1) := by decide +kernel
theorem dJ6_bitCount_0f7a4_2 : decode cJ6_bitCount_0f7a4 2 = .ok (.iconst 1, 1) := by decide +kernel
theorem dJ6_bitCount_0f7a4_3 : decode cJ6_bitCount_0f7a4 3 = .ok (.iushr, 1) := by decide +kernel
theorem dJ6_bitCount_0f7a4_4 : decode cJ6_bitCount_0f7a4 4 = .ok (.ldc_w 265, 3) := by decide +kernel
theorem dJ6_bitCount_0f7a4_7 : decode cJ6_bitCount_0f7a4 7 = .ok (.iand, 1) := by decide +kernel
theorem dJ6_bitCount_0f7a4_8 : decode cJ6_bitCount_0f7a4 8 = .ok (.isub, 1) := by decide +kernel
theorem dJ6_bitCount_0f7a4_9 : decode cJ6_bitCount_0f7a4 9 = .ok (.istore_n 0, 1) := by decide +kernel
theorem dJ6_bitCount_0f7a4_10 : decode cJ6_bitCount_0f7a4 10 = .ok (.iload_n 0, 1) := by decide +kernel
theorem dJ6_bitCount_0f7a4_11 : decode cJ6_bitCount_0f7a4 11 = .ok (.ldc_w 266, 3) := by decide +kernel
theorem dJ6_bitCount_0f7a4_14 : decode cJ6_bitCount_0f7a4 14 = .ok (.iand, 1) := by decide +kernel
theorem dJ6_bitCount_0f7a4_15 : decode cJ6_bitCount_0f7a4 15 = .ok (.iload_n 0, 1) := by decide +kernel
theorem dJ6_bitCount_0f7a4_16 : decode cJ6_bitCount_0f7a4 16 = .ok (.iconst 2, 1) := by decide +kernel
theorem dJ6_bitCount_0f7a4_17 : decode cJ6_bitCount_0f7a4 17 = .ok (.iushr, 1) := by decide +kernel
theorem dJ6_bitCount_0f7a4_18 : decode cJ6_bitCount_0f7a4 18 = .ok (.ldc_w 266, 3) := by decide +kernel
theorem dJ6_bitCount_0f7a4_21 : decode cJ6_bitCount_0f7a4 21 = .ok (.iand, 1) := by decide +kernel
theorem dJ6_bitCount_0f7a4_22 : decode cJ6_bitCount_0f7a4 22 = .ok (.iadd, 1) := by decide +kernel
theorem dJ6_bitCount_0f7a4_23 : decode cJ6_bitCount_0f7a4 23 = .ok (.istore_n 0, 1) := by decide +kernel
theorem dJ6_bitCount_0f7a4_24 : decode cJ6_bitCount_0f7a4 24 = .ok (.iload_n 0, 1) := by decide +kernel
theorem dJ6_bitCount_0f7a4_25 : decode cJ6_bitCount_0f7a4 25 = .ok (.iload_n 0, 1) := by decide +kernel
theorem dJ6_bitCount_0f7a4_26 : decode cJ6_bitCount_0f7a4 26 = .ok (.iconst 4, 1) := by decide +kernel
theorem dJ6_bitCount_0f7a4_27 : decode cJ6_bitCount_0f7a4 27 = .ok (.iushr, 1) := by decide +kernel
theorem dJ6_bitCount_0f7a4_28 : decode cJ6_bitCount_0f7a4 28 = .ok (.iadd, 1) := by decide +kernel
theorem dJ6_bitCount_0f7a4_29 : decode cJ6_bitCount_0f7a4 29 = .ok (.ldc_w 267, 3) := by decide +kernel
theorem dJ6_bitCount_0f7a4_32 : decode cJ6_bitCount_0f7a4 32 = .ok (.iand, 1) := by decide +kernel
theorem dJ6_bitCount_0f7a4_33 : decode cJ6_bitCount_0f7a4 33 = .ok (.istore_n 0, 1) := by decide +kernel
theorem dJ6_bitCount_0f7a4_34 : decode cJ6_bitCount_0f7a4 34 = .ok (.iload_n 0, 1) := by decide +kernel
theorem dJ6_bitCount_0f7a4_35 : decode cJ6_bitCount_0f7a4 35 = .ok (.iload_n 0, 1) := by decide +kernel
theorem dJ6_bitCount_0f7a4_36 : decode cJ6_bitCount_0f7a4 36 = .ok (.bipush 8, 2) := by decide +kernel
theorem dJ6_bitCount_0f7a4_38 : decode cJ6_bitCount_0f7a4 38 = .ok (.iushr, 1) := by decide +kernel
theorem dJ6_bitCount_0f7a4_39 : decode cJ6_bitCount_0f7a4 39 = .ok (.iadd, 1) := by decide +kernel
theorem dJ6_bitCount_0f7a4_40 : decode cJ6_bitCount_0f7a4 40 = .ok (.istore_n 0, 1) := by decide +kernel
theorem dJ6_bitCount_0f7a4_41 : decode cJ6_bitCount_0f7a4 41 = .ok (.iload_n 0, 1) := by decide +kernel
theorem dJ6_bitCount_0f7a4_42 : decode cJ6_bitCount_0f7a4 42 = .ok (.iload_n 0, 1) := by decide +kernel
theorem dJ6_bitCount_0f7a4_43 : decode cJ6_bitCount_0f7a4 43 = .ok (.bipush 16, 2) := by decide +kernel
theorem dJ6_bitCount_0f7a4_45 : decode cJ6_bitCount_0f7a4 45 = .ok (.iushr, 1) := by decide +kernel
theorem dJ6_bitCount_0f7a4_46 : decode cJ6_bitCount_0f7a4 46 = .ok (.iadd, 1) := by decide +kernel
theorem dJ6_bitCount_0f7a4_47 : decode cJ6_bitCount_0f7a4 47 = .ok (.istore_n 0, 1) := by decide +kernel
theorem dJ6_bitCount_0f7a4_48 : decode cJ6_bitCount_0f7a4 48 = .ok (.iload_n 0, 1) := by decide +kernel
theorem dJ6_bitCount_0f7a4_49 : decode cJ6_bitCount_0f7a4 49 = .ok (.bipush 63, 2) := by decide +kernel
theorem dJ6_bitCount_0f7a4_51 : decode cJ6_bitCount_0f7a4 51 = .ok (.iand, 1) := by decide +kernel
theorem dJ6_bitCount_0f7a4_52 : decode cJ6_bitCount_0f7a4 52 = .ok (.ireturn, 1) := by decide +kernel
theorem dJ9_max_7cf53_0 : decode cJ9_max_7cf53 0 = .ok (.iload_n 0, 1) := by decide +kernel
theorem dJ9_max_7cf53_1 : decode cJ9_max_7cf53 1 = .ok (.iload_n 1, 1) := by decide +kernel
theorem dJ9_max_7cf53_2 : decode cJ9_max_7cf53 2 = .ok (.if_icmp .lt 7, 3) := by decide +kernel
theorem dJ9_max_7cf53_5 : decode cJ9_max_7cf53 5 = .ok (.iload_n 0, 1) := by decide +kernel
theorem dJ9_max_7cf53_6 : decode cJ9_max_7cf53 6 = .ok (.goto 4, 3) := by decide +kernel
theorem dJ9_max_7cf53_9 : decode cJ9_max_7cf53 9 = .ok (.iload_n 1, 1) := by decide +kernel
theorem dJ9_max_7cf53_10 : decode cJ9_max_7cf53 10 = .ok (.ireturn, 1) := by decide +kernel
theorem dJ9_min_7cf53_0 : decode cJ9_min_7cf53 0 = .ok (.iload_n 0, 1) := by decide +kernel
theorem dJ9_min_7cf53_1 : decode cJ9_min_7cf53 1 = .ok (.iload_n 1, 1) := by decide +kernel
theorem dJ9_min_7cf53_2 : decode cJ9_min_7cf53 2 = .ok (.if_icmp .gt 7, 3) := by decide +kernel
theorem dJ9_min_7cf53_5 : decode cJ9_min_7cf53 5 = .ok (.iload_n 0, 1) := by decide +kernel
theorem dJ9_min_7cf53_6 : decode cJ9_min_7cf53 6 = .ok (.goto 4, 3) := by decide +kernel
theorem dJ9_min_7cf53_9 : decode cJ9_min_7cf53 9 = .ok (.iload_n 1, 1) := by decide +kernel
theorem dJ9_min_7cf53_10 : decode cJ9_min_7cf53 10 = .ok (.ireturn, 1) := by decide +kernel
end
section
theorem dX5_init_0 : decode cX5_init 0 = .ok (.aload_n 0, 1) := by decide +kernel
theorem dX5_init_1 : decode cX5_init 1 = .ok (.invokespecial 1, 3) := by decide +kernel
theorem dX5_init_4 : decode cX5_init 4 = .ok (.aload_n 0, 1) := by decide +kernel
theorem dX5_init_5 : decode cX5_init 5 = .ok (.new 7, 3) := by decide +kernel
theorem dX5_init_8 : decode cX5_init 8 = .ok (.dup, 1) := by decide +kernel
theorem dX5_init_9 : decode cX5_init 9 = .ok (.invokespecial 9, 3) := by decide +kernel
theorem dX5_init_12 : decode cX5_init 12 = .ok (.putfield 10, 3) := by decide +kernel
theorem dX5_init_15 : decode cX5_init 15 = .ok (.aload_n 0, 1) := by decide +kernel
theorem dX5_init_16 : decode cX5_init 16 = .ok (.new 7, 3) := by decide +kernel
theorem dX5_init_19 : decode cX5_init 19 = .ok (.dup, 1) := by decide +kernel
theorem dX5_init_20 : decode cX5_init 20 = .ok (.invokespecial 9, 3) := by decide +kernel
theorem dX5_init_23 : decode cX5_init 23 = .ok (.putfield 16, 3) := by decide +kernel
theorem dX5_init_26 : decode cX5_init 26 = .ok (.aload_n 0, 1) := by decide +kernel
theorem dX5_init_27 : decode cX5_init 27 = .ok (.new 7, 3) := by decide +kernel
theorem dX5_init_30 : decode cX5_init 30 = .ok (.dup, 1) := by decide +kernel
theorem dX5_init_31 : decode cX5_init 31 = .ok (.invokespecial 9, 3) := by decide +kernel
theorem dX5_init_34 : decode cX5_init 34 = .ok (.putfield 19, 3) := by decide +kernel
theorem dX5_init_37 : decode cX5_init 37 = .ok (.aload_n 0, 1) := by decide +kernel
theorem dX5_init_38 : decode cX5_init 38 = .ok (.new 22, 3) := by decide +kernel
theorem dX5_init_41 : decode cX5_init 41 = .ok (.dup, 1) := by decide +kernel
theorem dX5_init_42 : decode cX5_init 42 = .ok (.invokespecial 24, 3) := by decide +kernel
theorem dX5_init_45 : decode cX5_init 45 = .ok (.putfield 25, 3) := by decide +kernel
theorem dX5_init_48 : decode cX5_init 48 = .ok (.aload_n 0, 1) := by decide +kernel
theorem dX5_init_49 : decode cX5_init 49 = .ok (.new 29, 3) := by decide +kernel
theorem dX5_init_52 : decode cX5_init 52 = .ok (.dup, 1) := by decide +kernel
theorem dX5_init_53 : decode cX5_init 53 = .ok (.invokespecial 31, 3) := by decide +kernel
theorem dX5_init_56 : decode cX5_init 56 = .ok (.putfield 32, 3) := by decide +kernel
theorem dX5_init_59 : decode cX5_init 59 = .ok (.aload_n 0, 1) := by decide +kernel
theorem dX5_init_60 : decode cX5_init 60 = .ok (.new 36, 3) := by decide +kernel
theorem dX5_init_63 : decode cX5_init 63 = .ok (.dup, 1) := by decide +kernel
theorem dX5_init_64 : decode cX5_init 64 = .ok (.invokespecial 38, 3) := by decide +kernel
theorem dX5_init_67 : decode cX5_init 67 = .ok (.putfield 39, 3) := by decide +kernel
theorem dX5_init_70 : decode cX5_init 70 = .ok (.aload_n 0, 1) := by decide +kernel
theorem dX5_init_71 : decode cX5_init 71 = .ok (.bipush 8, 2) := by decide +kernel
theorem dX5_init_73 : decode cX5_init 73 = .ok (.newarray .int, 2) := by decide +kernel
theorem dX5_init_75 : decode cX5_init 75 = .ok (.putfield 43, 3) := by decide +kernel
theorem dX5_init_78 : decode cX5_init 78 = .ok (.aload_n 0, 1) := by decide +kernel
theorem dX5_init_79 : decode cX5_init 79 = .ok (.bipush 8, 2) := by decide +kernel
theorem dX5_init_81 : decode cX5_init 81 = .ok (.newarray .int, 2) := by decide +kernel
theorem dX5_init_83 : decode cX5_init 83 = .ok (.putfield 47, 3) := by decide +kernel
theorem dX5_init_86 : decode cX5_init 86 = .ok (.aload_n 0, 1) := by decide +kernel
theorem dX5_init_87 : decode cX5_init 87 = .ok (.iconst 0, 1) := by decide +kernel
theorem dX5_init_88 : decode cX5_init 88 = .ok (.putfield 50, 3) := by decide +kernel
theorem dX5_init_91 : decode cX5_init 91 = .ok (.return_, 1) := by decide +kernel
theorem dX5_angel_0 : decode cX5_angel 0 = .ok (.iload_n 1, 1) := by decide +kernel
theorem dX5_angel_1 : decode cX5_angel 1 = .ok (.invokestatic 54, 3) := by decide +kernel
theorem dX5_angel_4 : decode cX5_angel 4 = .ok (.ifCond .ne 5, 3) := by decide +kernel
theorem dX5_angel_7 : decode cX5_angel 7 = .ok (.iconst (-1), 1) := by decide +kernel
theorem dX5_angel_8 : decode cX5_angel 8 = .ok (.ireturn, 1) := by decide +kernel
theorem dX5_angel_9 : decode cX5_angel 9 = .ok (.aload_n 0, 1) := by decide +kernel
theorem dX5_angel_10 : decode cX5_angel 10 = .ok (.getfield 10, 3) := by decide +kernel
theorem dX5_angel_13 : decode cX5_angel 13 = .ok (.getfield 58, 3) := by decide +kernel
theorem dX5_angel_16 : decode cX5_angel 16 = .ok (.bipush 8, 2) := by decide +kernel
theorem dX5_angel_18 : decode cX5_angel 18 = .ok (.if_icmp .lt 6, 3) := by decide +kernel
theorem dX5_angel_21 : decode cX5_angel 21 = .ok (.bipush (-3), 2) := by decide +kernel
theorem dX5_angel_23 : decode cX5_angel 23 = .ok (.ireturn, 1) := by decide +kernel
theorem dX5_angel_24 : decode cX5_angel 24 = .ok (.aload_n 0, 1) := by decide +kernel
theorem dX5_angel_25 : decode cX5_angel 25 = .ok (.getfield 10, 3) := by decide +kernel
theorem dX5_angel_28 : decode cX5_angel 28 = .ok (.invokevirtual 62, 3) := by decide +kernel
theorem dX5_angel_31 : decode cX5_angel 31 = .ok (.iload_n 1, 1) := by decide +kernel
theorem dX5_angel_32 : decode cX5_angel 32 = .ok (.invokestatic 66, 3) := by decide +kernel
theorem dX5_angel_35 : decode cX5_angel 35 = .ok (.ifCond .eq 6, 3) := by decide +kernel
theorem dX5_angel_38 : decode cX5_angel 38 = .ok (.bipush (-2), 2) := by decide +kernel
theorem dX5_angel_40 : decode cX5_angel 40 = .ok (.ireturn, 1) := by decide +kernel
theorem dX5_angel_41 : decode cX5_angel 41 = .ok (.aload_n 0, 1) := by decide +kernel
theorem dX5_angel_42 : decode cX5_angel 42 = .ok (.getfield 10, 3) := by decide +kernel
theorem dX5_angel_45 : decode cX5_angel 45 = .ok (.getfield 70, 3) := by decide +kernel
theorem dX5_angel_48 : decode cX5_angel 48 = .ok (.invokevirtual 74, 3) := by decide +kernel
theorem dX5_angel_51 : decode cX5_angel 51 = .ok (.aload_n 0, 1) := by decide +kernel
theorem dX5_angel_52 : decode cX5_angel 52 = .ok (.getfield 10, 3) := by decide +kernel
theorem dX5_angel_55 : decode cX5_angel 55 = .ok (.iload_n 1, 1) := by decide +kernel
theorem dX5_angel_56 : decode cX5_angel 56 = .ok (.invokevirtual 79, 3) := by decide +kernel
theorem dX5_angel_59 : decode cX5_angel 59 = .ok (.ireturn, 1) := by decide +kernel
theorem dX5_figure_0 : decode cX5_figure 0 = .ok (.iload_n 1, 1) := by decide +kernel
theorem dX5_figure_1 : decode cX5_figure 1 = .ok (.iconst 0, 1) := by decide +kernel
theorem dX5_figure_2 : decode cX5_figure 2 = .ok (.iconst 4, 1) := by decide +kernel
theorem dX5_figure_3 : decode cX5_figure 3 = .ok (.invokestatic 83, 3) := by decide +kernel
theorem dX5_figure_6 : decode cX5_figure 6 = .ok (.ifCond .eq 10, 3) := by decide +kernel
theorem dX5_figure_9 : decode cX5_figure 9 = .ok (.iload_n 2, 1) := by decide +kernel
theorem dX5_figure_10 : decode cX5_figure 10 = .ok (.invokestatic 54, 3) := by decide +kernel
theorem dX5_figure_13 : decode cX5_figure 13 = .ok (.ifCond .ne 5, 3) := by decide +kernel
theorem dX5_figure_16 : decode cX5_figure 16 = .ok (.iconst (-1), 1) := by decide +kernel
theorem dX5_figure_17 : decode cX5_figure 17 = .ok (.ireturn, 1) := by decide +kernel
theorem dX5_figure_18 : decode cX5_figure 18 = .ok (.aload_n 0, 1) := by decide +kernel
theorem dX5_figure_19 : decode cX5_figure 19 = .ok (.getfield 10, 3) := by decide +kernel
theorem dX5_figure_22 : decode cX5_figure 22 = .ok (.getfield 87, 3) := by decide +kernel
theorem dX5_figure_25 : decode cX5_figure 25 = .ok (.iconst 5, 1) := by decide +kernel
theorem dX5_figure_26 : decode cX5_figure 26 = .ok (.if_icmp .lt 6, 3) := by decide +kernel
theorem dX5_figure_29 : decode cX5_figure 29 = .ok (.bipush (-3), 2) := by decide +kernel
theorem dX5_figure_31 : decode cX5_figure 31 = .ok (.ireturn, 1) := by decide +kernel
theorem dX5_figure_32 : decode cX5_figure 32 = .ok (.aload_n 0, 1) := by decide +kernel
theorem dX5_figure_33 : decode cX5_figure 33 = .ok (.getfield 10, 3) := by decide +kernel
theorem dX5_figure_36 : decode cX5_figure 36 = .ok (.getfield 70, 3) := by decide +kernel
theorem dX5_figure_39 : decode cX5_figure 39 = .ok (.invokevirtual 74, 3) := by decide +kernel
theorem dX5_figure_42 : decode cX5_figure 42 = .ok (.aload_n 0, 1) := by decide +kernel
theorem dX5_figure_43 : decode cX5_figure 43 = .ok (.getfield 10, 3) := by decide +kernel
theorem dX5_figure_46 : decode cX5_figure 46 = .ok (.iload_n 1, 1) := by decide +kernel
theorem dX5_figure_47 : decode cX5_figure 47 = .ok (.iload_n 2, 1) := by decide +kernel
theorem dX5_figure_48 : decode cX5_figure 48 = .ok (.invokevirtual 90, 3) := by decide +kernel
theorem dX5_figure_51 : decode cX5_figure 51 = .ok (.ireturn, 1) := by decide +kernel
theorem dX5_tune_0 : decode cX5_tune 0 = .ok (.aload_n 0, 1) := by decide +kernel
theorem dX5_tune_1 : decode cX5_tune 1 = .ok (.getfield 10, 3) := by decide +kernel
theorem dX5_tune_4 : decode cX5_tune 4 = .ok (.iload_n 1, 1) := by decide +kernel
theorem dX5_tune_5 : decode cX5_tune 5 = .ok (.invokevirtual 94, 3) := by decide +kernel
theorem dX5_tune_8 : decode cX5_tune 8 = .ok (.ifCond .ne 5, 3) := by decide +kernel
theorem dX5_tune_11 : decode cX5_tune 11 = .ok (.iconst (-1), 1) := by decide +kernel
theorem dX5_tune_12 : decode cX5_tune 12 = .ok (.ireturn, 1) := by decide +kernel
theorem dX5_tune_13 : decode cX5_tune 13 = .ok (.aload_n 0, 1) := by decide +kernel
theorem dX5_tune_14 : decode cX5_tune 14 = .ok (.getfield 10, 3) := by decide +kernel
theorem dX5_tune_17 : decode cX5_tune 17 = .ok (.getfield 97, 3) := by decide +kernel
theorem dX5_tune_20 : decode cX5_tune 20 = .ok (.bipush 16, 2) := by decide +kernel
theorem dX5_tune_22 : decode cX5_tune 22 = .ok (.if_icmp .lt 6, 3) := by decide +kernel
theorem dX5_tune_25 : decode cX5_tune 25 = .ok (.bipush (-3), 2) := by decide +kernel
theorem dX5_tune_27 : decode cX5_tune 27 = .ok (.ireturn, 1) := by decide +kernel
theorem dX5_tune_28 : decode cX5_tune 28 = .ok (.aload_n 0, 1) := by decide +kernel
theorem dX5_tune_29 : decode cX5_tune 29 = .ok (.getfield 10, 3) := by decide +kernel
theorem dX5_tune_32 : decode cX5_tune 32 = .ok (.getfield 70, 3) := by decide +kernel
theorem dX5_tune_35 : decode cX5_tune 35 = .ok (.invokevirtual 74, 3) := by decide +kernel
theorem dX5_tune_38 : decode cX5_tune 38 = .ok (.aload_n 0, 1) := by decide +kernel
theorem dX5_tune_39 : decode cX5_tune 39 = .ok (.getfield 10, 3) := by decide +kernel
theorem dX5_tune_42 : decode cX5_tune 42 = .ok (.iload_n 1, 1) := by decide +kernel
theorem dX5_tune_43 : decode cX5_tune 43 = .ok (.invokevirtual 100, 3) := by decide +kernel
theorem dX5_tune_46 : decode cX5_tune 46 = .ok (.ireturn, 1) := by decide +kernel
theorem dX5_hush_0 : decode cX5_hush 0 = .ok (.aload_n 0, 1) := by decide +kernel
theorem dX5_hush_1 : decode cX5_hush 1 = .ok (.getfield 10, 3) := by decide +kernel
theorem dX5_hush_4 : decode cX5_hush 4 = .ok (.getfield 70, 3) := by decide +kernel
theorem dX5_hush_7 : decode cX5_hush 7 = .ok (.invokevirtual 74, 3) := by decide +kernel
theorem dX5_hush_10 : decode cX5_hush 10 = .ok (.aload_n 0, 1) := by decide +kernel
theorem dX5_hush_11 : decode cX5_hush 11 = .ok (.getfield 10, 3) := by decide +kernel
theorem dX5_hush_14 : decode cX5_hush 14 = .ok (.getfield 97, 3) := by decide +kernel
theorem dX5_hush_17 : decode cX5_hush 17 = .ok (.istore_n 1, 1) := by decide +kernel
theorem dX5_hush_18 : decode cX5_hush 18 = .ok (.aload_n 0, 1) := by decide +kernel
theorem dX5_hush_19 : decode cX5_hush 19 = .ok (.getfield 10, 3) := by decide +kernel
theorem dX5_hush_22 : decode cX5_hush 22 = .ok (.iconst 0, 1) := by decide +kernel
theorem dX5_hush_23 : decode cX5_hush 23 = .ok (.putfield 97, 3) := by decide +kernel
theorem dX5_hush_26 : decode cX5_hush 26 = .ok (.iload_n 1, 1) := by decide +kernel
theorem dX5_hush_27 : decode cX5_hush 27 = .ok (.ireturn, 1) := by decide +kernel
theorem dX5_of_0 : decode cX5_of 0 = .ok (.aload_n 0, 1) := by decide +kernel
theorem dX5_of_1 : decode cX5_of 1 = .ok (.getfield 10, 3) := by decide +kernel
theorem dX5_of_4 : decode cX5_of 4 = .ok (.iload_n 1, 1) := by decide +kernel
theorem dX5_of_5 : decode cX5_of 5 = .ok (.invokevirtual 94, 3) := by decide +kernel
theorem dX5_of_8 : decode cX5_of 8 = .ok (.ifCond .ne 5, 3) := by decide +kernel
theorem dX5_of_11 : decode cX5_of 11 = .ok (.iconst (-1), 1) := by decide +kernel
theorem dX5_of_12 : decode cX5_of 12 = .ok (.ireturn, 1) := by decide +kernel
theorem dX5_of_13 : decode cX5_of 13 = .ok (.iload_n 2, 1) := by decide +kernel
theorem dX5_of_14 : decode cX5_of 14 = .ok (.tableswitch 81 0 4 #[34, 44, 54, 63, 72], 34) := by decide +kernel
theorem dX5_of_48 : decode cX5_of 48 = .ok (.aload_n 0, 1) := by decide +kernel
theorem dX5_of_49 : decode cX5_of 49 = .ok (.getfield 10, 3) := by decide +kernel
theorem dX5_of_52 : decode cX5_of 52 = .ok (.getfield 103, 3) := by decide +kernel
theorem dX5_of_55 : decode cX5_of 55 = .ok (.iload_n 1, 1) := by decide +kernel
theorem dX5_of_56 : decode cX5_of 56 = .ok (.iaload, 1) := by decide +kernel
theorem dX5_of_57 : decode cX5_of 57 = .ok (.ireturn, 1) := by decide +kernel
theorem dX5_of_58 : decode cX5_of 58 = .ok (.aload_n 0, 1) := by decide +kernel
theorem dX5_of_59 : decode cX5_of 59 = .ok (.getfield 10, 3) := by decide +kernel
theorem dX5_of_62 : decode cX5_of 62 = .ok (.getfield 106, 3) := by decide +kernel
theorem dX5_of_65 : decode cX5_of 65 = .ok (.iload_n 1, 1) := by decide +kernel
theorem dX5_of_66 : decode cX5_of 66 = .ok (.iaload, 1) := by decide +kernel
theorem dX5_of_67 : decode cX5_of 67 = .ok (.ireturn, 1) := by decide +kernel
theorem dX5_of_68 : decode cX5_of 68 = .ok (.aload_n 0, 1) := by decide +kernel
theorem dX5_of_69 : decode cX5_of 69 = .ok (.getfield 10, 3) := by decide +kernel
theorem dX5_of_72 : decode cX5_of 72 = .ok (.iload_n 1, 1) := by decide +kernel
theorem dX5_of_73 : decode cX5_of 73 = .ok (.invokevirtual 109, 3) := by decide +kernel
theorem dX5_of_76 : decode cX5_of 76 = .ok (.ireturn, 1) := by decide +kernel
theorem dX5_of_77 : decode cX5_of 77 = .ok (.aload_n 0, 1) := by decide +kernel
theorem dX5_of_78 : decode cX5_of 78 = .ok (.getfield 10, 3) := by decide +kernel
theorem dX5_of_81 : decode cX5_of 81 = .ok (.iload_n 1, 1) := by decide +kernel
theorem dX5_of_82 : decode cX5_of 82 = .ok (.invokevirtual 112, 3) := by decide +kernel
theorem dX5_of_85 : decode cX5_of 85 = .ok (.ireturn, 1) := by decide +kernel
theorem dX5_of_86 : decode cX5_of 86 = .ok (.aload_n 0, 1) := by decide +kernel
theorem dX5_of_87 : decode cX5_of 87 = .ok (.getfield 10, 3) := by decide +kernel
theorem dX5_of_90 : decode cX5_of 90 = .ok (.iload_n 1, 1) := by decide +kernel
theorem dX5_of_91 : decode cX5_of 91 = .ok (.invokevirtual 115, 3) := by decide +kernel
theorem dX5_of_94 : decode cX5_of 94 = .ok (.ireturn, 1) := by decide +kernel
theorem dX5_of_95 : decode cX5_of 95 = .ok (.iconst (-1), 1) := by decide +kernel
theorem dX5_of_96 : decode cX5_of 96 = .ok (.ireturn, 1) := by decide +kernel
theorem dX5_leads_0 : decode cX5_leads 0 = .ok (.aload_n 0, 1) := by decide +kernel
theorem dX5_leads_1 : decode cX5_leads 1 = .ok (.getfield 10, 3) := by decide +kernel
theorem dX5_leads_4 : decode cX5_leads 4 = .ok (.iload_n 1, 1) := by decide +kernel
theorem dX5_leads_5 : decode cX5_leads 5 = .ok (.invokevirtual 94, 3) := by decide +kernel
theorem dX5_leads_8 : decode cX5_leads 8 = .ok (.ifCond .eq 10, 3) := by decide +kernel
theorem dX5_leads_11 : decode cX5_leads 11 = .ok (.iload_n 2, 1) := by decide +kernel
theorem dX5_leads_12 : decode cX5_leads 12 = .ok (.invokestatic 54, 3) := by decide +kernel
theorem dX5_leads_15 : decode cX5_leads 15 = .ok (.ifCond .ne 5, 3) := by decide +kernel
theorem dX5_leads_18 : decode cX5_leads 18 = .ok (.iconst (-1), 1) := by decide +kernel
theorem dX5_leads_19 : decode cX5_leads 19 = .ok (.ireturn, 1) := by decide +kernel
theorem dX5_leads_20 : decode cX5_leads 20 = .ok (.aload_n 0, 1) := by decide +kernel
theorem dX5_leads_21 : decode cX5_leads 21 = .ok (.getfield 10, 3) := by decide +kernel
theorem dX5_leads_24 : decode cX5_leads 24 = .ok (.iload_n 1, 1) := by decide +kernel
theorem dX5_leads_25 : decode cX5_leads 25 = .ok (.iload_n 2, 1) := by decide +kernel
theorem dX5_leads_26 : decode cX5_leads 26 = .ok (.invokevirtual 118, 3) := by decide +kernel
theorem dX5_leads_29 : decode cX5_leads 29 = .ok (.ireturn, 1) := by decide +kernel
theorem dX5_at_0 : decode cX5_at 0 = .ok (.aload_n 0, 1) := by decide +kernel
theorem dX5_at_1 : decode cX5_at 1 = .ok (.getfield 10, 3) := by decide +kernel
theorem dX5_at_4 : decode cX5_at 4 = .ok (.iload_n 1, 1) := by decide +kernel
theorem dX5_at_5 : decode cX5_at 5 = .ok (.invokevirtual 121, 3) := by decide +kernel
theorem dX5_at_8 : decode cX5_at 8 = .ok (.ifCond .ne 5, 3) := by decide +kernel
theorem dX5_at_11 : decode cX5_at 11 = .ok (.iconst (-1), 1) := by decide +kernel
theorem dX5_at_12 : decode cX5_at 12 = .ok (.ireturn, 1) := by decide +kernel
theorem dX5_at_13 : decode cX5_at 13 = .ok (.aload_n 0, 1) := by decide +kernel
theorem dX5_at_14 : decode cX5_at 14 = .ok (.getfield 10, 3) := by decide +kernel
theorem dX5_at_17 : decode cX5_at 17 = .ok (.getfield 124, 3) := by decide +kernel
theorem dX5_at_20 : decode cX5_at 20 = .ok (.iload_n 1, 1) := by decide +kernel
theorem dX5_at_21 : decode cX5_at 21 = .ok (.iaload, 1) := by decide +kernel
theorem dX5_at_22 : decode cX5_at 22 = .ok (.ireturn, 1) := by decide +kernel
theorem dX5_seen_0 : decode cX5_seen 0 = .ok (.iload_n 1, 1) := by decide +kernel
theorem dX5_seen_1 : decode cX5_seen 1 = .ok (.invokestatic 54, 3) := by decide +kernel
theorem dX5_seen_4 : decode cX5_seen 4 = .ok (.ifCond .ne 5, 3) := by decide +kernel
theorem dX5_seen_7 : decode cX5_seen 7 = .ok (.iconst (-1), 1) := by decide +kernel
theorem dX5_seen_8 : decode cX5_seen 8 = .ok (.ireturn, 1) := by decide +kernel
theorem dX5_seen_9 : decode cX5_seen 9 = .ok (.aload_n 0, 1) := by decide +kernel
theorem dX5_seen_10 : decode cX5_seen 10 = .ok (.getfield 10, 3) := by decide +kernel
theorem dX5_seen_13 : decode cX5_seen 13 = .ok (.invokevirtual 62, 3) := by decide +kernel
theorem dX5_seen_16 : decode cX5_seen 16 = .ok (.iload_n 1, 1) := by decide +kernel
theorem dX5_seen_17 : decode cX5_seen 17 = .ok (.invokestatic 127, 3) := by decide +kernel
theorem dX5_seen_20 : decode cX5_seen 20 = .ok (.ireturn, 1) := by decide +kernel
theorem dX5_type_0 : decode cX5_type 0 = .ok (.iload_n 1, 1) := by decide +kernel
theorem dX5_type_1 : decode cX5_type 1 = .ok (.bipush 32, 2) := by decide +kernel
theorem dX5_type_3 : decode cX5_type 3 = .ok (.bipush 126, 2) := by decide +kernel
theorem dX5_type_5 : decode cX5_type 5 = .ok (.invokestatic 83, 3) := by decide +kernel
theorem dX5_type_8 : decode cX5_type 8 = .ok (.ifCond .ne 5, 3) := by decide +kernel
theorem dX5_type_11 : decode cX5_type 11 = .ok (.iconst (-1), 1) := by decide +kernel
theorem dX5_type_12 : decode cX5_type 12 = .ok (.ireturn, 1) := by decide +kernel
theorem dX5_type_13 : decode cX5_type 13 = .ok (.aload_n 0, 1) := by decide +kernel
theorem dX5_type_14 : decode cX5_type 14 = .ok (.getfield 25, 3) := by decide +kernel
theorem dX5_type_17 : decode cX5_type 17 = .ok (.invokevirtual 130, 3) := by decide +kernel
theorem dX5_type_20 : decode cX5_type 20 = .ok (.ifCond .eq 6, 3) := by decide +kernel
theorem dX5_type_23 : decode cX5_type 23 = .ok (.bipush (-3), 2) := by decide +kernel
theorem dX5_type_25 : decode cX5_type 25 = .ok (.ireturn, 1) := by decide +kernel
theorem dX5_type_26 : decode cX5_type 26 = .ok (.aload_n 0, 1) := by decide +kernel
theorem dX5_type_27 : decode cX5_type 27 = .ok (.getfield 25, 3) := by decide +kernel
theorem dX5_type_30 : decode cX5_type 30 = .ok (.iload_n 1, 1) := by decide +kernel
theorem dX5_type_31 : decode cX5_type 31 = .ok (.invokevirtual 134, 3) := by decide +kernel
theorem dX5_type_34 : decode cX5_type 34 = .ok (.ireturn, 1) := by decide +kernel
theorem dX5_ring_0 : decode cX5_ring 0 = .ok (.aload_n 0, 1) := by decide +kernel
theorem dX5_ring_1 : decode cX5_ring 1 = .ok (.getfield 25, 3) := by decide +kernel
theorem dX5_ring_4 : decode cX5_ring 4 = .ok (.aload_n 0, 1) := by decide +kernel
theorem dX5_ring_5 : decode cX5_ring 5 = .ok (.getfield 19, 3) := by decide +kernel
theorem dX5_ring_8 : decode cX5_ring 8 = .ok (.invokevirtual 137, 3) := by decide +kernel
theorem dX5_ring_11 : decode cX5_ring 11 = .ok (.istore_n 1, 1) := by decide +kernel
theorem dX5_ring_12 : decode cX5_ring 12 = .ok (.bipush (-20), 2) := by decide +kernel
theorem dX5_ring_14 : decode cX5_ring 14 = .ok (.aload_n 0, 1) := by decide +kernel
theorem dX5_ring_15 : decode cX5_ring 15 = .ok (.getfield 25, 3) := by decide +kernel
theorem dX5_ring_18 : decode cX5_ring 18 = .ok (.getfield 141, 3) := by decide +kernel
theorem dX5_ring_21 : decode cX5_ring 21 = .ok (.isub, 1) := by decide +kernel
theorem dX5_ring_22 : decode cX5_ring 22 = .ok (.istore_n 2, 1) := by decide +kernel
theorem dX5_ring_23 : decode cX5_ring 23 = .ok (.aload_n 0, 1) := by decide +kernel
theorem dX5_ring_24 : decode cX5_ring 24 = .ok (.getfield 25, 3) := by decide +kernel
theorem dX5_ring_27 : decode cX5_ring 27 = .ok (.invokevirtual 144, 3) := by decide +kernel
theorem dX5_ring_30 : decode cX5_ring 30 = .ok (.iload_n 1, 1) := by decide +kernel
theorem dX5_ring_31 : decode cX5_ring 31 = .ok (.ifCond .ne 5, 3) := by decide +kernel
theorem dX5_ring_34 : decode cX5_ring 34 = .ok (.iload_n 2, 1) := by decide +kernel
theorem dX5_ring_35 : decode cX5_ring 35 = .ok (.ireturn, 1) := by decide +kernel
theorem dX5_ring_36 : decode cX5_ring 36 = .ok (.aload_n 0, 1) := by decide +kernel
theorem dX5_ring_37 : decode cX5_ring 37 = .ok (.getfield 19, 3) := by decide +kernel
theorem dX5_ring_40 : decode cX5_ring 40 = .ok (.aload_n 0, 1) := by decide +kernel
theorem dX5_ring_41 : decode cX5_ring 41 = .ok (.getfield 10, 3) := by decide +kernel
theorem dX5_ring_44 : decode cX5_ring 44 = .ok (.getfield 147, 3) := by decide +kernel
theorem dX5_ring_47 : decode cX5_ring 47 = .ok (.putfield 147, 3) := by decide +kernel
theorem dX5_ring_50 : decode cX5_ring 50 = .ok (.aload_n 0, 1) := by decide +kernel
theorem dX5_ring_51 : decode cX5_ring 51 = .ok (.getfield 10, 3) := by decide +kernel
theorem dX5_ring_54 : decode cX5_ring 54 = .ok (.aload_n 0, 1) := by decide +kernel
theorem dX5_ring_55 : decode cX5_ring 55 = .ok (.getfield 19, 3) := by decide +kernel
theorem dX5_ring_58 : decode cX5_ring 58 = .ok (.invokevirtual 150, 3) := by decide +kernel
theorem dX5_ring_61 : decode cX5_ring 61 = .ok (.aload_n 0, 1) := by decide +kernel
theorem dX5_ring_62 : decode cX5_ring 62 = .ok (.getfield 10, 3) := by decide +kernel
theorem dX5_ring_65 : decode cX5_ring 65 = .ok (.getfield 58, 3) := by decide +kernel
theorem dX5_ring_68 : decode cX5_ring 68 = .ok (.ireturn, 1) := by decide +kernel
theorem dX5_count_0 : decode cX5_count 0 = .ok (.iload_n 1, 1) := by decide +kernel
theorem dX5_count_1 : decode cX5_count 1 = .ok (.tableswitch 121 0 7 #[47, 55, 63, 71, 79, 87, 95, 110], 47) := by decide +kernel
theorem dX5_count_48 : decode cX5_count 48 = .ok (.aload_n 0, 1) := by decide +kernel
theorem dX5_count_49 : decode cX5_count 49 = .ok (.getfield 10, 3) := by decide +kernel
theorem dX5_count_52 : decode cX5_count 52 = .ok (.getfield 58, 3) := by decide +kernel
theorem dX5_count_55 : decode cX5_count 55 = .ok (.ireturn, 1) := by decide +kernel
theorem dX5_count_56 : decode cX5_count 56 = .ok (.aload_n 0, 1) := by decide +kernel
theorem dX5_count_57 : decode cX5_count 57 = .ok (.getfield 10, 3) := by decide +kernel
theorem dX5_count_60 : decode cX5_count 60 = .ok (.getfield 87, 3) := by decide +kernel
theorem dX5_count_63 : decode cX5_count 63 = .ok (.ireturn, 1) := by decide +kernel
theorem dX5_count_64 : decode cX5_count 64 = .ok (.aload_n 0, 1) := by decide +kernel
theorem dX5_count_65 : decode cX5_count 65 = .ok (.getfield 10, 3) := by decide +kernel
theorem dX5_count_68 : decode cX5_count 68 = .ok (.getfield 97, 3) := by decide +kernel
theorem dX5_count_71 : decode cX5_count 71 = .ok (.ireturn, 1) := by decide +kernel
theorem dX5_count_72 : decode cX5_count 72 = .ok (.aload_n 0, 1) := by decide +kernel
theorem dX5_count_73 : decode cX5_count 73 = .ok (.getfield 10, 3) := by decide +kernel
theorem dX5_count_76 : decode cX5_count 76 = .ok (.getfield 154, 3) := by decide +kernel
theorem dX5_count_79 : decode cX5_count 79 = .ok (.ireturn, 1) := by decide +kernel
theorem dX5_count_80 : decode cX5_count 80 = .ok (.aload_n 0, 1) := by decide +kernel
theorem dX5_count_81 : decode cX5_count 81 = .ok (.getfield 10, 3) := by decide +kernel
theorem dX5_count_84 : decode cX5_count 84 = .ok (.invokevirtual 62, 3) := by decide +kernel
theorem dX5_count_87 : decode cX5_count 87 = .ok (.ireturn, 1) := by decide +kernel
theorem dX5_count_88 : decode cX5_count 88 = .ok (.aload_n 0, 1) := by decide +kernel
theorem dX5_count_89 : decode cX5_count 89 = .ok (.getfield 10, 3) := by decide +kernel
theorem dX5_count_92 : decode cX5_count 92 = .ok (.invokevirtual 157, 3) := by decide +kernel
theorem dX5_count_95 : decode cX5_count 95 = .ok (.ireturn, 1) := by decide +kernel
theorem dX5_count_96 : decode cX5_count 96 = .ok (.aload_n 0, 1) := by decide +kernel
theorem dX5_count_97 : decode cX5_count 97 = .ok (.getfield 10, 3) := by decide +kernel
theorem dX5_count_100 : decode cX5_count 100 = .ok (.aload_n 0, 1) := by decide +kernel
theorem dX5_count_101 : decode cX5_count 101 = .ok (.getfield 10, 3) := by decide +kernel
theorem dX5_count_104 : decode cX5_count 104 = .ok (.getfield 154, 3) := by decide +kernel
theorem dX5_count_107 : decode cX5_count 107 = .ok (.invokevirtual 160, 3) := by decide +kernel
theorem dX5_count_110 : decode cX5_count 110 = .ok (.ireturn, 1) := by decide +kernel
theorem dX5_count_111 : decode cX5_count 111 = .ok (.aload_n 0, 1) := by decide +kernel
theorem dX5_count_112 : decode cX5_count 112 = .ok (.getfield 10, 3) := by decide +kernel
theorem dX5_count_115 : decode cX5_count 115 = .ok (.getfield 70, 3) := by decide +kernel
theorem dX5_count_118 : decode cX5_count 118 = .ok (.getfield 163, 3) := by decide +kernel
theorem dX5_count_121 : decode cX5_count 121 = .ok (.ireturn, 1) := by decide +kernel
theorem dX5_count_122 : decode cX5_count 122 = .ok (.iconst (-1), 1) := by decide +kernel
theorem dX5_count_123 : decode cX5_count 123 = .ok (.ireturn, 1) := by decide +kernel
theorem dX5_beats_0 : decode cX5_beats 0 = .ok (.aload_n 0, 1) := by decide +kernel
theorem dX5_beats_1 : decode cX5_beats 1 = .ok (.iload_n 1, 1) := by decide +kernel
theorem dX5_beats_2 : decode cX5_beats 2 = .ok (.invokevirtual 166, 3) := by decide +kernel
theorem dX5_beats_5 : decode cX5_beats 5 = .ok (.istore_n 2, 1) := by decide +kernel
theorem dX5_beats_6 : decode cX5_beats 6 = .ok (.iload_n 2, 1) := by decide +kernel
theorem dX5_beats_7 : decode cX5_beats 7 = .ok (.ifCond .ge 5, 3) := by decide +kernel
theorem dX5_beats_10 : decode cX5_beats 10 = .ok (.iload_n 2, 1) := by decide +kernel
theorem dX5_beats_11 : decode cX5_beats 11 = .ok (.ireturn, 1) := by decide +kernel
theorem dX5_beats_12 : decode cX5_beats 12 = .ok (.iconst 0, 1) := by decide +kernel
theorem dX5_beats_13 : decode cX5_beats 13 = .ok (.istore_n 3, 1) := by decide +kernel
theorem dX5_beats_14 : decode cX5_beats 14 = .ok (.iload_n 3, 1) := by decide +kernel
theorem dX5_beats_15 : decode cX5_beats 15 = .ok (.iload_n 1, 1) := by decide +kernel
theorem dX5_beats_16 : decode cX5_beats 16 = .ok (.if_icmp .ge 30, 3) := by decide +kernel
theorem dX5_beats_19 : decode cX5_beats 19 = .ok (.aload_n 0, 1) := by decide +kernel
theorem dX5_beats_20 : decode cX5_beats 20 = .ok (.getfield 10, 3) := by decide +kernel
theorem dX5_beats_23 : decode cX5_beats 23 = .ok (.getfield 70, 3) := by decide +kernel
theorem dX5_beats_26 : decode cX5_beats 26 = .ok (.aload_n 0, 1) := by decide +kernel
theorem dX5_beats_27 : decode cX5_beats 27 = .ok (.getfield 10, 3) := by decide +kernel
theorem dX5_beats_30 : decode cX5_beats 30 = .ok (.invokevirtual 169, 3) := by decide +kernel
theorem dX5_beats_33 : decode cX5_beats 33 = .ok (.aload_n 0, 1) := by decide +kernel
theorem dX5_beats_34 : decode cX5_beats 34 = .ok (.getfield 10, 3) := by decide +kernel
theorem dX5_beats_37 : decode cX5_beats 37 = .ok (.invokevirtual 172, 3) := by decide +kernel
theorem dX5_beats_40 : decode cX5_beats 40 = .ok (.iinc 3 1, 3) := by decide +kernel
theorem dX5_beats_43 : decode cX5_beats 43 = .ok (.goto (-29), 3) := by decide +kernel
theorem dX5_beats_46 : decode cX5_beats 46 = .ok (.aload_n 0, 1) := by decide +kernel
theorem dX5_beats_47 : decode cX5_beats 47 = .ok (.getfield 10, 3) := by decide +kernel
theorem dX5_beats_50 : decode cX5_beats 50 = .ok (.invokevirtual 62, 3) := by decide +kernel
theorem dX5_beats_53 : decode cX5_beats 53 = .ok (.ireturn, 1) := by decide +kernel
theorem dX5_draught_0 : decode cX5_draught 0 = .ok (.iload_n 1, 1) := by decide +kernel
theorem dX5_draught_1 : decode cX5_draught 1 = .ok (.iconst 1, 1) := by decide +kernel
theorem dX5_draught_2 : decode cX5_draught 2 = .ok (.bipush 7, 2) := by decide +kernel
theorem dX5_draught_4 : decode cX5_draught 4 = .ok (.invokestatic 83, 3) := by decide +kernel
theorem dX5_draught_7 : decode cX5_draught 7 = .ok (.ifCond .ne 5, 3) := by decide +kernel
theorem dX5_draught_10 : decode cX5_draught 10 = .ok (.iconst (-1), 1) := by decide +kernel
theorem dX5_draught_11 : decode cX5_draught 11 = .ok (.ireturn, 1) := by decide +kernel
theorem dX5_draught_12 : decode cX5_draught 12 = .ok (.aload_n 0, 1) := by decide +kernel
theorem dX5_draught_13 : decode cX5_draught 13 = .ok (.getfield 10, 3) := by decide +kernel
theorem dX5_draught_16 : decode cX5_draught 16 = .ok (.getfield 70, 3) := by decide +kernel
theorem dX5_draught_19 : decode cX5_draught 19 = .ok (.aload_n 0, 1) := by decide +kernel
theorem dX5_draught_20 : decode cX5_draught 20 = .ok (.getfield 10, 3) := by decide +kernel
theorem dX5_draught_23 : decode cX5_draught 23 = .ok (.invokevirtual 169, 3) := by decide +kernel
theorem dX5_draught_26 : decode cX5_draught 26 = .ok (.aload_n 0, 1) := by decide +kernel
theorem dX5_draught_27 : decode cX5_draught 27 = .ok (.getfield 10, 3) := by decide +kernel
theorem dX5_draught_30 : decode cX5_draught 30 = .ok (.iload_n 1, 1) := by decide +kernel
theorem dX5_draught_31 : decode cX5_draught 31 = .ok (.invokevirtual 175, 3) := by decide +kernel
theorem dX5_draught_34 : decode cX5_draught 34 = .ok (.aload_n 0, 1) := by decide +kernel
theorem dX5_draught_35 : decode cX5_draught 35 = .ok (.getfield 10, 3) := by decide +kernel
theorem dX5_draught_38 : decode cX5_draught 38 = .ok (.invokevirtual 62, 3) := by decide +kernel
theorem dX5_draught_41 : decode cX5_draught 41 = .ok (.ireturn, 1) := by decide +kernel
theorem dX5_leave_0 : decode cX5_leave 0 = .ok (.aload_n 0, 1) := by decide +kernel
theorem dX5_leave_1 : decode cX5_leave 1 = .ok (.getfield 10, 3) := by decide +kernel
theorem dX5_leave_4 : decode cX5_leave 4 = .ok (.iload_n 1, 1) := by decide +kernel
theorem dX5_leave_5 : decode cX5_leave 5 = .ok (.invokevirtual 121, 3) := by decide +kernel
theorem dX5_leave_8 : decode cX5_leave 8 = .ok (.ifCond .ne 5, 3) := by decide +kernel
theorem dX5_leave_11 : decode cX5_leave 11 = .ok (.iconst (-1), 1) := by decide +kernel
theorem dX5_leave_12 : decode cX5_leave 12 = .ok (.ireturn, 1) := by decide +kernel
theorem dX5_leave_13 : decode cX5_leave 13 = .ok (.aload_n 0, 1) := by decide +kernel
theorem dX5_leave_14 : decode cX5_leave 14 = .ok (.getfield 10, 3) := by decide +kernel
theorem dX5_leave_17 : decode cX5_leave 17 = .ok (.getfield 124, 3) := by decide +kernel
theorem dX5_leave_20 : decode cX5_leave 20 = .ok (.iload_n 1, 1) := by decide +kernel
theorem dX5_leave_21 : decode cX5_leave 21 = .ok (.iaload, 1) := by decide +kernel
theorem dX5_leave_22 : decode cX5_leave 22 = .ok (.istore_n 2, 1) := by decide +kernel
theorem dX5_leave_23 : decode cX5_leave 23 = .ok (.iload_n 2, 1) := by decide +kernel
theorem dX5_leave_24 : decode cX5_leave 24 = .ok (.bipush (-4), 2) := by decide +kernel
theorem dX5_leave_26 : decode cX5_leave 26 = .ok (.if_icmp .ne 6, 3) := by decide +kernel
theorem dX5_leave_29 : decode cX5_leave 29 = .ok (.bipush (-2), 2) := by decide +kernel
theorem dX5_leave_31 : decode cX5_leave 31 = .ok (.ireturn, 1) := by decide +kernel
theorem dX5_leave_32 : decode cX5_leave 32 = .ok (.aload_n 0, 1) := by decide +kernel
theorem dX5_leave_33 : decode cX5_leave 33 = .ok (.getfield 10, 3) := by decide +kernel
theorem dX5_leave_36 : decode cX5_leave 36 = .ok (.getfield 70, 3) := by decide +kernel
theorem dX5_leave_39 : decode cX5_leave 39 = .ok (.aload_n 0, 1) := by decide +kernel
theorem dX5_leave_40 : decode cX5_leave 40 = .ok (.getfield 10, 3) := by decide +kernel
theorem dX5_leave_43 : decode cX5_leave 43 = .ok (.invokevirtual 169, 3) := by decide +kernel
theorem dX5_leave_46 : decode cX5_leave 46 = .ok (.aload_n 0, 1) := by decide +kernel
theorem dX5_leave_47 : decode cX5_leave 47 = .ok (.getfield 10, 3) := by decide +kernel
theorem dX5_leave_50 : decode cX5_leave 50 = .ok (.getfield 124, 3) := by decide +kernel
theorem dX5_leave_53 : decode cX5_leave 53 = .ok (.iload_n 1, 1) := by decide +kernel
theorem dX5_leave_54 : decode cX5_leave 54 = .ok (.bipush (-4), 2) := by decide +kernel
theorem dX5_leave_56 : decode cX5_leave 56 = .ok (.iastore, 1) := by decide +kernel
theorem dX5_leave_57 : decode cX5_leave 57 = .ok (.iload_n 2, 1) := by decide +kernel
theorem dX5_leave_58 : decode cX5_leave 58 = .ok (.ireturn, 1) := by decide +kernel
theorem dX5_come_0 : decode cX5_come 0 = .ok (.aload_n 0, 1) := by decide +kernel
theorem dX5_come_1 : decode cX5_come 1 = .ok (.getfield 10, 3) := by decide +kernel
theorem dX5_come_4 : decode cX5_come 4 = .ok (.iload_n 1, 1) := by decide +kernel
theorem dX5_come_5 : decode cX5_come 5 = .ok (.invokevirtual 121, 3) := by decide +kernel
theorem dX5_come_8 : decode cX5_come 8 = .ok (.ifCond .eq 10, 3) := by decide +kernel
theorem dX5_come_11 : decode cX5_come 11 = .ok (.iload_n 2, 1) := by decide +kernel
theorem dX5_come_12 : decode cX5_come 12 = .ok (.invokestatic 54, 3) := by decide +kernel
theorem dX5_come_15 : decode cX5_come 15 = .ok (.ifCond .ne 5, 3) := by decide +kernel
theorem dX5_come_18 : decode cX5_come 18 = .ok (.iconst (-1), 1) := by decide +kernel
theorem dX5_come_19 : decode cX5_come 19 = .ok (.ireturn, 1) := by decide +kernel
theorem dX5_come_20 : decode cX5_come 20 = .ok (.aload_n 0, 1) := by decide +kernel
theorem dX5_come_21 : decode cX5_come 21 = .ok (.getfield 10, 3) := by decide +kernel
theorem dX5_come_24 : decode cX5_come 24 = .ok (.getfield 124, 3) := by decide +kernel
theorem dX5_come_27 : decode cX5_come 27 = .ok (.iload_n 1, 1) := by decide +kernel
theorem dX5_come_28 : decode cX5_come 28 = .ok (.iaload, 1) := by decide +kernel
theorem dX5_come_29 : decode cX5_come 29 = .ok (.bipush (-4), 2) := by decide +kernel
theorem dX5_come_31 : decode cX5_come 31 = .ok (.if_icmp .ne 17, 3) := by decide +kernel
theorem dX5_come_34 : decode cX5_come 34 = .ok (.aload_n 0, 1) := by decide +kernel
theorem dX5_come_35 : decode cX5_come 35 = .ok (.getfield 10, 3) := by decide +kernel
theorem dX5_come_38 : decode cX5_come 38 = .ok (.invokevirtual 62, 3) := by decide +kernel
theorem dX5_come_41 : decode cX5_come 41 = .ok (.iload_n 2, 1) := by decide +kernel
theorem dX5_come_42 : decode cX5_come 42 = .ok (.invokestatic 66, 3) := by decide +kernel
theorem dX5_come_45 : decode cX5_come 45 = .ok (.ifCond .eq 6, 3) := by decide +kernel
theorem dX5_come_48 : decode cX5_come 48 = .ok (.bipush (-2), 2) := by decide +kernel
theorem dX5_come_50 : decode cX5_come 50 = .ok (.ireturn, 1) := by decide +kernel
theorem dX5_come_51 : decode cX5_come 51 = .ok (.aload_n 0, 1) := by decide +kernel
theorem dX5_come_52 : decode cX5_come 52 = .ok (.getfield 10, 3) := by decide +kernel
theorem dX5_come_55 : decode cX5_come 55 = .ok (.getfield 70, 3) := by decide +kernel
theorem dX5_come_58 : decode cX5_come 58 = .ok (.aload_n 0, 1) := by decide +kernel
theorem dX5_come_59 : decode cX5_come 59 = .ok (.getfield 10, 3) := by decide +kernel
theorem dX5_come_62 : decode cX5_come 62 = .ok (.invokevirtual 169, 3) := by decide +kernel
theorem dX5_come_65 : decode cX5_come 65 = .ok (.aload_n 0, 1) := by decide +kernel
theorem dX5_come_66 : decode cX5_come 66 = .ok (.getfield 10, 3) := by decide +kernel
theorem dX5_come_69 : decode cX5_come 69 = .ok (.getfield 124, 3) := by decide +kernel
theorem dX5_come_72 : decode cX5_come 72 = .ok (.iload_n 1, 1) := by decide +kernel
theorem dX5_come_73 : decode cX5_come 73 = .ok (.iload_n 2, 1) := by decide +kernel
theorem dX5_come_74 : decode cX5_come 74 = .ok (.iastore, 1) := by decide +kernel
theorem dX5_come_75 : decode cX5_come 75 = .ok (.aload_n 0, 1) := by decide +kernel
theorem dX5_come_76 : decode cX5_come 76 = .ok (.getfield 10, 3) := by decide +kernel
theorem dX5_come_79 : decode cX5_come 79 = .ok (.invokevirtual 62, 3) := by decide +kernel
theorem dX5_come_82 : decode cX5_come 82 = .ok (.invokestatic 179, 3) := by decide +kernel
theorem dX5_come_85 : decode cX5_come 85 = .ok (.ireturn, 1) := by decide +kernel
theorem dX5_drift_0 : decode cX5_drift 0 = .ok (.aload_n 0, 1) := by decide +kernel
theorem dX5_drift_1 : decode cX5_drift 1 = .ok (.iload_n 1, 1) := by decide +kernel
theorem dX5_drift_2 : decode cX5_drift 2 = .ok (.invokevirtual 166, 3) := by decide +kernel
theorem dX5_drift_5 : decode cX5_drift 5 = .ok (.istore_n 2, 1) := by decide +kernel
theorem dX5_drift_6 : decode cX5_drift 6 = .ok (.iload_n 2, 1) := by decide +kernel
theorem dX5_drift_7 : decode cX5_drift 7 = .ok (.ifCond .ge 5, 3) := by decide +kernel
theorem dX5_drift_10 : decode cX5_drift 10 = .ok (.iload_n 2, 1) := by decide +kernel
theorem dX5_drift_11 : decode cX5_drift 11 = .ok (.ireturn, 1) := by decide +kernel
theorem dX5_drift_12 : decode cX5_drift 12 = .ok (.iconst 0, 1) := by decide +kernel
theorem dX5_drift_13 : decode cX5_drift 13 = .ok (.istore_n 3, 1) := by decide +kernel
theorem dX5_drift_14 : decode cX5_drift 14 = .ok (.iload_n 3, 1) := by decide +kernel
theorem dX5_drift_15 : decode cX5_drift 15 = .ok (.iload_n 1, 1) := by decide +kernel
theorem dX5_drift_16 : decode cX5_drift 16 = .ok (.if_icmp .ge 37, 3) := by decide +kernel
theorem dX5_drift_19 : decode cX5_drift 19 = .ok (.aload_n 0, 1) := by decide +kernel
theorem dX5_drift_20 : decode cX5_drift 20 = .ok (.getfield 10, 3) := by decide +kernel
theorem dX5_drift_23 : decode cX5_drift 23 = .ok (.getfield 70, 3) := by decide +kernel
theorem dX5_drift_26 : decode cX5_drift 26 = .ok (.aload_n 0, 1) := by decide +kernel
theorem dX5_drift_27 : decode cX5_drift 27 = .ok (.getfield 10, 3) := by decide +kernel
theorem dX5_drift_30 : decode cX5_drift 30 = .ok (.invokevirtual 169, 3) := by decide +kernel
theorem dX5_drift_33 : decode cX5_drift 33 = .ok (.aload_n 0, 1) := by decide +kernel
theorem dX5_drift_34 : decode cX5_drift 34 = .ok (.getfield 10, 3) := by decide +kernel
theorem dX5_drift_37 : decode cX5_drift 37 = .ok (.invokevirtual 184, 3) := by decide +kernel
theorem dX5_drift_40 : decode cX5_drift 40 = .ok (.aload_n 0, 1) := by decide +kernel
theorem dX5_drift_41 : decode cX5_drift 41 = .ok (.getfield 10, 3) := by decide +kernel
theorem dX5_drift_44 : decode cX5_drift 44 = .ok (.invokevirtual 172, 3) := by decide +kernel
theorem dX5_drift_47 : decode cX5_drift 47 = .ok (.iinc 3 1, 3) := by decide +kernel
theorem dX5_drift_50 : decode cX5_drift 50 = .ok (.goto (-36), 3) := by decide +kernel
theorem dX5_drift_53 : decode cX5_drift 53 = .ok (.aload_n 0, 1) := by decide +kernel
theorem dX5_drift_54 : decode cX5_drift 54 = .ok (.getfield 10, 3) := by decide +kernel
theorem dX5_drift_57 : decode cX5_drift 57 = .ok (.invokevirtual 62, 3) := by decide +kernel
theorem dX5_drift_60 : decode cX5_drift 60 = .ok (.ireturn, 1) := by decide +kernel
theorem dX5_undo_0 : decode cX5_undo 0 = .ok (.aload_n 0, 1) := by decide +kernel
theorem dX5_undo_1 : decode cX5_undo 1 = .ok (.getfield 10, 3) := by decide +kernel
theorem dX5_undo_4 : decode cX5_undo 4 = .ok (.getfield 70, 3) := by decide +kernel
theorem dX5_undo_7 : decode cX5_undo 7 = .ok (.getfield 163, 3) := by decide +kernel
theorem dX5_undo_10 : decode cX5_undo 10 = .ok (.ifCond .gt 6, 3) := by decide +kernel
theorem dX5_undo_13 : decode cX5_undo 13 = .ok (.bipush (-4), 2) := by decide +kernel
theorem dX5_undo_15 : decode cX5_undo 15 = .ok (.ireturn, 1) := by decide +kernel
theorem dX5_undo_16 : decode cX5_undo 16 = .ok (.aload_n 0, 1) := by decide +kernel
theorem dX5_undo_17 : decode cX5_undo 17 = .ok (.getfield 10, 3) := by decide +kernel
theorem dX5_undo_20 : decode cX5_undo 20 = .ok (.getfield 70, 3) := by decide +kernel
theorem dX5_undo_23 : decode cX5_undo 23 = .ok (.aload_n 0, 1) := by decide +kernel
theorem dX5_undo_24 : decode cX5_undo 24 = .ok (.getfield 10, 3) := by decide +kernel
theorem dX5_undo_27 : decode cX5_undo 27 = .ok (.invokevirtual 187, 3) := by decide +kernel
theorem dX5_undo_30 : decode cX5_undo 30 = .ok (.aload_n 0, 1) := by decide +kernel
theorem dX5_undo_31 : decode cX5_undo 31 = .ok (.getfield 10, 3) := by decide +kernel
theorem dX5_undo_34 : decode cX5_undo 34 = .ok (.getfield 70, 3) := by decide +kernel
theorem dX5_undo_37 : decode cX5_undo 37 = .ok (.getfield 163, 3) := by decide +kernel
theorem dX5_undo_40 : decode cX5_undo 40 = .ok (.ireturn, 1) := by decide +kernel
theorem dX5_seed_0 : decode cX5_seed 0 = .ok (.iload_n 1, 1) := by decide +kernel
theorem dX5_seed_1 : decode cX5_seed 1 = .ok (.ifCond .ge 5, 3) := by decide +kernel
theorem dX5_seed_4 : decode cX5_seed 4 = .ok (.iconst (-1), 1) := by decide +kernel
theorem dX5_seed_5 : decode cX5_seed 5 = .ok (.ireturn, 1) := by decide +kernel
theorem dX5_seed_6 : decode cX5_seed 6 = .ok (.aload_n 0, 1) := by decide +kernel
theorem dX5_seed_7 : decode cX5_seed 7 = .ok (.getfield 10, 3) := by decide +kernel
theorem dX5_seed_10 : decode cX5_seed 10 = .ok (.getfield 147, 3) := by decide +kernel
theorem dX5_seed_13 : decode cX5_seed 13 = .ok (.istore_n 2, 1) := by decide +kernel
theorem dX5_seed_14 : decode cX5_seed 14 = .ok (.aload_n 0, 1) := by decide +kernel
theorem dX5_seed_15 : decode cX5_seed 15 = .ok (.getfield 10, 3) := by decide +kernel
theorem dX5_seed_18 : decode cX5_seed 18 = .ok (.iload_n 1, 1) := by decide +kernel
theorem dX5_seed_19 : decode cX5_seed 19 = .ok (.putfield 147, 3) := by decide +kernel
theorem dX5_seed_22 : decode cX5_seed 22 = .ok (.iload_n 2, 1) := by decide +kernel
theorem dX5_seed_23 : decode cX5_seed 23 = .ok (.ireturn, 1) := by decide +kernel
theorem dX5_ahead_0 : decode cX5_ahead 0 = .ok (.aload_n 0, 1) := by decide +kernel
theorem dX5_ahead_1 : decode cX5_ahead 1 = .ok (.getfield 10, 3) := by decide +kernel
theorem dX5_ahead_4 : decode cX5_ahead 4 = .ok (.iload_n 1, 1) := by decide +kernel
theorem dX5_ahead_5 : decode cX5_ahead 5 = .ok (.invokevirtual 121, 3) := by decide +kernel
theorem dX5_ahead_8 : decode cX5_ahead 8 = .ok (.ifCond .eq 13, 3) := by decide +kernel
theorem dX5_ahead_11 : decode cX5_ahead 11 = .ok (.iload_n 2, 1) := by decide +kernel
theorem dX5_ahead_12 : decode cX5_ahead 12 = .ok (.iconst 0, 1) := by decide +kernel
theorem dX5_ahead_13 : decode cX5_ahead 13 = .ok (.ldc 190, 2) := by decide +kernel
theorem dX5_ahead_15 : decode cX5_ahead 15 = .ok (.invokestatic 83, 3) := by decide +kernel
theorem dX5_ahead_18 : decode cX5_ahead 18 = .ok (.ifCond .ne 5, 3) := by decide +kernel
theorem dX5_ahead_21 : decode cX5_ahead 21 = .ok (.iconst (-1), 1) := by decide +kernel
theorem dX5_ahead_22 : decode cX5_ahead 22 = .ok (.ireturn, 1) := by decide +kernel
theorem dX5_ahead_23 : decode cX5_ahead 23 = .ok (.aload_n 0, 1) := by decide +kernel
theorem dX5_ahead_24 : decode cX5_ahead 24 = .ok (.getfield 10, 3) := by decide +kernel
theorem dX5_ahead_27 : decode cX5_ahead 27 = .ok (.aload_n 0, 1) := by decide +kernel
theorem dX5_ahead_28 : decode cX5_ahead 28 = .ok (.getfield 10, 3) := by decide +kernel
theorem dX5_ahead_31 : decode cX5_ahead 31 = .ok (.getfield 124, 3) := by decide +kernel
theorem dX5_ahead_34 : decode cX5_ahead 34 = .ok (.iload_n 1, 1) := by decide +kernel
theorem dX5_ahead_35 : decode cX5_ahead 35 = .ok (.iaload, 1) := by decide +kernel
theorem dX5_ahead_36 : decode cX5_ahead 36 = .ok (.iload_n 2, 1) := by decide +kernel
theorem dX5_ahead_37 : decode cX5_ahead 37 = .ok (.invokevirtual 191, 3) := by decide +kernel
theorem dX5_ahead_40 : decode cX5_ahead 40 = .ok (.ireturn, 1) := by decide +kernel
theorem dX5_then_0 : decode cX5_then 0 = .ok (.iload_n 1, 1) := by decide +kernel
theorem dX5_then_1 : decode cX5_then 1 = .ok (.invokestatic 54, 3) := by decide +kernel
theorem dX5_then_4 : decode cX5_then 4 = .ok (.ifCond .eq 22, 3) := by decide +kernel
theorem dX5_then_7 : decode cX5_then 7 = .ok (.iload_n 2, 1) := by decide +kernel
theorem dX5_then_8 : decode cX5_then 8 = .ok (.iconst 0, 1) := by decide +kernel
theorem dX5_then_9 : decode cX5_then 9 = .ok (.ldc 190, 2) := by decide +kernel
theorem dX5_then_11 : decode cX5_then 11 = .ok (.invokestatic 83, 3) := by decide +kernel
theorem dX5_then_14 : decode cX5_then 14 = .ok (.ifCond .eq 12, 3) := by decide +kernel
theorem dX5_then_17 : decode cX5_then 17 = .ok (.iload_n 3, 1) := by decide +kernel
theorem dX5_then_18 : decode cX5_then 18 = .ok (.iconst 0, 1) := by decide +kernel
theorem dX5_then_19 : decode cX5_then 19 = .ok (.iconst 1, 1) := by decide +kernel
theorem dX5_then_20 : decode cX5_then 20 = .ok (.invokestatic 83, 3) := by decide +kernel
theorem dX5_then_23 : decode cX5_then 23 = .ok (.ifCond .ne 5, 3) := by decide +kernel
theorem dX5_then_26 : decode cX5_then 26 = .ok (.iconst (-1), 1) := by decide +kernel
theorem dX5_then_27 : decode cX5_then 27 = .ok (.ireturn, 1) := by decide +kernel
theorem dX5_then_28 : decode cX5_then 28 = .ok (.iconst 0, 1) := by decide +kernel
theorem dX5_then_29 : decode cX5_then 29 = .ok (.istore 4, 2) := by decide +kernel
theorem dX5_then_31 : decode cX5_then 31 = .ok (.bipush (-4), 2) := by decide +kernel
theorem dX5_then_33 : decode cX5_then 33 = .ok (.istore 5, 2) := by decide +kernel
theorem dX5_then_35 : decode cX5_then 35 = .ok (.iconst 0, 1) := by decide +kernel
theorem dX5_then_36 : decode cX5_then 36 = .ok (.istore 6, 2) := by decide +kernel
theorem dX5_then_38 : decode cX5_then 38 = .ok (.iload 6, 2) := by decide +kernel
theorem dX5_then_40 : decode cX5_then 40 = .ok (.aload_n 0, 1) := by decide +kernel
theorem dX5_then_41 : decode cX5_then 41 = .ok (.getfield 10, 3) := by decide +kernel
theorem dX5_then_44 : decode cX5_then 44 = .ok (.getfield 58, 3) := by decide +kernel
theorem dX5_then_47 : decode cX5_then 47 = .ok (.if_icmp .ge 49, 3) := by decide +kernel
theorem dX5_then_50 : decode cX5_then 50 = .ok (.aload_n 0, 1) := by decide +kernel
theorem dX5_then_51 : decode cX5_then 51 = .ok (.getfield 10, 3) := by decide +kernel
theorem dX5_then_54 : decode cX5_then 54 = .ok (.aload_n 0, 1) := by decide +kernel
theorem dX5_then_55 : decode cX5_then 55 = .ok (.getfield 10, 3) := by decide +kernel
theorem dX5_then_58 : decode cX5_then 58 = .ok (.getfield 124, 3) := by decide +kernel
theorem dX5_then_61 : decode cX5_then 61 = .ok (.iload 6, 2) := by decide +kernel
theorem dX5_then_63 : decode cX5_then 63 = .ok (.iaload, 1) := by decide +kernel
theorem dX5_then_64 : decode cX5_then 64 = .ok (.iload_n 2, 1) := by decide +kernel
theorem dX5_then_65 : decode cX5_then 65 = .ok (.invokevirtual 191, 3) := by decide +kernel
theorem dX5_then_68 : decode cX5_then 68 = .ok (.istore 7, 2) := by decide +kernel
theorem dX5_then_70 : decode cX5_then 70 = .ok (.iload 4, 2) := by decide +kernel
theorem dX5_then_72 : decode cX5_then 72 = .ok (.iload 7, 2) := by decide +kernel
theorem dX5_then_74 : decode cX5_then 74 = .ok (.invokestatic 194, 3) := by decide +kernel
theorem dX5_then_77 : decode cX5_then 77 = .ok (.ior, 1) := by decide +kernel
theorem dX5_then_78 : decode cX5_then 78 = .ok (.istore 4, 2) := by decide +kernel
theorem dX5_then_80 : decode cX5_then 80 = .ok (.iload 7, 2) := by decide +kernel
theorem dX5_then_82 : decode cX5_then 82 = .ok (.iload_n 1, 1) := by decide +kernel
theorem dX5_then_83 : decode cX5_then 83 = .ok (.if_icmp .ne 7, 3) := by decide +kernel
theorem dX5_then_86 : decode cX5_then 86 = .ok (.iload 6, 2) := by decide +kernel
theorem dX5_then_88 : decode cX5_then 88 = .ok (.istore 5, 2) := by decide +kernel
theorem dX5_then_90 : decode cX5_then 90 = .ok (.iinc 6 1, 3) := by decide +kernel
theorem dX5_then_93 : decode cX5_then 93 = .ok (.goto (-55), 3) := by decide +kernel
theorem dX5_then_96 : decode cX5_then 96 = .ok (.iload_n 3, 1) := by decide +kernel
theorem dX5_then_97 : decode cX5_then 97 = .ok (.ifCond .ne 8, 3) := by decide +kernel
theorem dX5_then_100 : decode cX5_then 100 = .ok (.iload 5, 2) := by decide +kernel
theorem dX5_then_102 : decode cX5_then 102 = .ok (.goto 9, 3) := by decide +kernel
theorem dX5_then_105 : decode cX5_then 105 = .ok (.iload 4, 2) := by decide +kernel
theorem dX5_then_107 : decode cX5_then 107 = .ok (.iload_n 1, 1) := by decide +kernel
theorem dX5_then_108 : decode cX5_then 108 = .ok (.invokestatic 127, 3) := by decide +kernel
theorem dX5_then_111 : decode cX5_then 111 = .ok (.ireturn, 1) := by decide +kernel
theorem dX5_back_0 : decode cX5_back 0 = .ok (.iload_n 1, 1) := by decide +kernel
theorem dX5_back_1 : decode cX5_back 1 = .ok (.iconst (-1), 1) := by decide +kernel
theorem dX5_back_2 : decode cX5_back 2 = .ok (.if_icmp .ne 16, 3) := by decide +kernel
theorem dX5_back_5 : decode cX5_back 5 = .ok (.aload_n 0, 1) := by decide +kernel
theorem dX5_back_6 : decode cX5_back 6 = .ok (.getfield 10, 3) := by decide +kernel
theorem dX5_back_9 : decode cX5_back 9 = .ok (.getfield 97, 3) := by decide +kernel
theorem dX5_back_12 : decode cX5_back 12 = .ok (.aload_n 0, 1) := by decide +kernel
theorem dX5_back_13 : decode cX5_back 13 = .ok (.invokevirtual 197, 3) := by decide +kernel
theorem dX5_back_16 : decode cX5_back 16 = .ok (.imul, 1) := by decide +kernel
theorem dX5_back_17 : decode cX5_back 17 = .ok (.ireturn, 1) := by decide +kernel
theorem dX5_back_18 : decode cX5_back 18 = .ok (.aload_n 0, 1) := by decide +kernel
theorem dX5_back_19 : decode cX5_back 19 = .ok (.getfield 10, 3) := by decide +kernel
theorem dX5_back_22 : decode cX5_back 22 = .ok (.iload_n 1, 1) := by decide +kernel
theorem dX5_back_23 : decode cX5_back 23 = .ok (.invokevirtual 121, 3) := by decide +kernel
theorem dX5_back_26 : decode cX5_back 26 = .ok (.ifCond .ne 5, 3) := by decide +kernel
theorem dX5_back_29 : decode cX5_back 29 = .ok (.iconst (-1), 1) := by decide +kernel
theorem dX5_back_30 : decode cX5_back 30 = .ok (.ireturn, 1) := by decide +kernel
theorem dX5_back_31 : decode cX5_back 31 = .ok (.aload_n 0, 1) := by decide +kernel
theorem dX5_back_32 : decode cX5_back 32 = .ok (.getfield 10, 3) := by decide +kernel
theorem dX5_back_35 : decode cX5_back 35 = .ok (.getfield 97, 3) := by decide +kernel
theorem dX5_back_38 : decode cX5_back 38 = .ok (.aload_n 0, 1) := by decide +kernel
theorem dX5_back_39 : decode cX5_back 39 = .ok (.getfield 10, 3) := by decide +kernel
theorem dX5_back_42 : decode cX5_back 42 = .ok (.aload_n 0, 1) := by decide +kernel
theorem dX5_back_43 : decode cX5_back 43 = .ok (.getfield 10, 3) := by decide +kernel
theorem dX5_back_46 : decode cX5_back 46 = .ok (.getfield 124, 3) := by decide +kernel
theorem dX5_back_49 : decode cX5_back 49 = .ok (.iload_n 1, 1) := by decide +kernel
theorem dX5_back_50 : decode cX5_back 50 = .ok (.iaload, 1) := by decide +kernel
theorem dX5_back_51 : decode cX5_back 51 = .ok (.invokevirtual 200, 3) := by decide +kernel
theorem dX5_back_54 : decode cX5_back 54 = .ok (.imul, 1) := by decide +kernel
theorem dX5_back_55 : decode cX5_back 55 = .ok (.ireturn, 1) := by decide +kernel
theorem dX5_been_0 : decode cX5_been 0 = .ok (.aload_n 0, 1) := by decide +kernel
theorem dX5_been_1 : decode cX5_been 1 = .ok (.getfield 10, 3) := by decide +kernel
theorem dX5_been_4 : decode cX5_been 4 = .ok (.iload_n 1, 1) := by decide +kernel
theorem dX5_been_5 : decode cX5_been 5 = .ok (.invokevirtual 121, 3) := by decide +kernel
theorem dX5_been_8 : decode cX5_been 8 = .ok (.ifCond .ne 5, 3) := by decide +kernel
theorem dX5_been_11 : decode cX5_been 11 = .ok (.iconst (-1), 1) := by decide +kernel
theorem dX5_been_12 : decode cX5_been 12 = .ok (.ireturn, 1) := by decide +kernel
theorem dX5_been_13 : decode cX5_been 13 = .ok (.aload_n 0, 1) := by decide +kernel
theorem dX5_been_14 : decode cX5_been 14 = .ok (.getfield 10, 3) := by decide +kernel
theorem dX5_been_17 : decode cX5_been 17 = .ok (.getfield 124, 3) := by decide +kernel
theorem dX5_been_20 : decode cX5_been 20 = .ok (.iload_n 1, 1) := by decide +kernel
theorem dX5_been_21 : decode cX5_been 21 = .ok (.iaload, 1) := by decide +kernel
theorem dX5_been_22 : decode cX5_been 22 = .ok (.istore_n 2, 1) := by decide +kernel
theorem dX5_been_23 : decode cX5_been 23 = .ok (.iload_n 2, 1) := by decide +kernel
theorem dX5_been_24 : decode cX5_been 24 = .ok (.invokestatic 194, 3) := by decide +kernel
theorem dX5_been_27 : decode cX5_been 27 = .ok (.istore_n 3, 1) := by decide +kernel
theorem dX5_been_28 : decode cX5_been 28 = .ok (.iconst 0, 1) := by decide +kernel
theorem dX5_been_29 : decode cX5_been 29 = .ok (.istore 4, 2) := by decide +kernel
theorem dX5_been_31 : decode cX5_been 31 = .ok (.iload 4, 2) := by decide +kernel
theorem dX5_been_33 : decode cX5_been 33 = .ok (.bipush 8, 2) := by decide +kernel
theorem dX5_been_35 : decode cX5_been 35 = .ok (.aload_n 0, 1) := by decide +kernel
theorem dX5_been_36 : decode cX5_been 36 = .ok (.getfield 10, 3) := by decide +kernel
theorem dX5_been_39 : decode cX5_been 39 = .ok (.getfield 97, 3) := by decide +kernel
theorem dX5_been_42 : decode cX5_been 42 = .ok (.imul, 1) := by decide +kernel
theorem dX5_been_43 : decode cX5_been 43 = .ok (.if_icmp .ge 35, 3) := by decide +kernel
theorem dX5_been_46 : decode cX5_been 46 = .ok (.aload_n 0, 1) := by decide +kernel
theorem dX5_been_47 : decode cX5_been 47 = .ok (.getfield 10, 3) := by decide +kernel
theorem dX5_been_50 : decode cX5_been 50 = .ok (.iload_n 2, 1) := by decide +kernel
theorem dX5_been_51 : decode cX5_been 51 = .ok (.aload_n 0, 1) := by decide +kernel
theorem dX5_been_52 : decode cX5_been 52 = .ok (.getfield 10, 3) := by decide +kernel
theorem dX5_been_55 : decode cX5_been 55 = .ok (.getfield 154, 3) := by decide +kernel
theorem dX5_been_58 : decode cX5_been 58 = .ok (.iload 4, 2) := by decide +kernel
theorem dX5_been_60 : decode cX5_been 60 = .ok (.iadd, 1) := by decide +kernel
theorem dX5_been_61 : decode cX5_been 61 = .ok (.invokevirtual 203, 3) := by decide +kernel
theorem dX5_been_64 : decode cX5_been 64 = .ok (.istore_n 2, 1) := by decide +kernel
theorem dX5_been_65 : decode cX5_been 65 = .ok (.iload_n 3, 1) := by decide +kernel
theorem dX5_been_66 : decode cX5_been 66 = .ok (.iload_n 2, 1) := by decide +kernel
theorem dX5_been_67 : decode cX5_been 67 = .ok (.invokestatic 194, 3) := by decide +kernel
theorem dX5_been_70 : decode cX5_been 70 = .ok (.ior, 1) := by decide +kernel
theorem dX5_been_71 : decode cX5_been 71 = .ok (.istore_n 3, 1) := by decide +kernel
theorem dX5_been_72 : decode cX5_been 72 = .ok (.iinc 4 1, 3) := by decide +kernel
theorem dX5_been_75 : decode cX5_been 75 = .ok (.goto (-44), 3) := by decide +kernel
theorem dX5_been_78 : decode cX5_been 78 = .ok (.iload_n 3, 1) := by decide +kernel
theorem dX5_been_79 : decode cX5_been 79 = .ok (.ireturn, 1) := by decide +kernel
theorem dX5_shortest_0 : decode cX5_shortest 0 = .ok (.iload_n 1, 1) := by decide +kernel
theorem dX5_shortest_1 : decode cX5_shortest 1 = .ok (.iconst 0, 1) := by decide +kernel
theorem dX5_shortest_2 : decode cX5_shortest 2 = .ok (.sipush 255, 3) := by decide +kernel
theorem dX5_shortest_5 : decode cX5_shortest 5 = .ok (.invokestatic 83, 3) := by decide +kernel
theorem dX5_shortest_8 : decode cX5_shortest 8 = .ok (.ifCond .eq 8, 3) := by decide +kernel
theorem dX5_shortest_11 : decode cX5_shortest 11 = .ok (.iload_n 2, 1) := by decide +kernel
theorem dX5_shortest_12 : decode cX5_shortest 12 = .ok (.iconst (-1), 1) := by decide +kernel
theorem dX5_shortest_13 : decode cX5_shortest 13 = .ok (.if_icmp .ge 5, 3) := by decide +kernel
theorem dX5_shortest_16 : decode cX5_shortest 16 = .ok (.iconst (-1), 1) := by decide +kernel
theorem dX5_shortest_17 : decode cX5_shortest 17 = .ok (.ireturn, 1) := by decide +kernel
theorem dX5_shortest_18 : decode cX5_shortest 18 = .ok (.aload_n 0, 1) := by decide +kernel
theorem dX5_shortest_19 : decode cX5_shortest 19 = .ok (.getfield 39, 3) := by decide +kernel
theorem dX5_shortest_22 : decode cX5_shortest 22 = .ok (.aload_n 0, 1) := by decide +kernel
theorem dX5_shortest_23 : decode cX5_shortest 23 = .ok (.getfield 10, 3) := by decide +kernel
theorem dX5_shortest_26 : decode cX5_shortest 26 = .ok (.aload_n 0, 1) := by decide +kernel
theorem dX5_shortest_27 : decode cX5_shortest 27 = .ok (.getfield 10, 3) := by decide +kernel
theorem dX5_shortest_30 : decode cX5_shortest 30 = .ok (.invokevirtual 62, 3) := by decide +kernel
theorem dX5_shortest_33 : decode cX5_shortest 33 = .ok (.invokevirtual 206, 3) := by decide +kernel
theorem dX5_shortest_36 : decode cX5_shortest 36 = .ok (.iload_n 2, 1) := by decide +kernel
theorem dX5_shortest_37 : decode cX5_shortest 37 = .ok (.iconst (-1), 1) := by decide +kernel
theorem dX5_shortest_38 : decode cX5_shortest 38 = .ok (.if_icmp .ne 14, 3) := by decide +kernel
theorem dX5_shortest_41 : decode cX5_shortest 41 = .ok (.aload_n 0, 1) := by decide +kernel
theorem dX5_shortest_42 : decode cX5_shortest 42 = .ok (.getfield 39, 3) := by decide +kernel
theorem dX5_shortest_45 : decode cX5_shortest 45 = .ok (.iload_n 1, 1) := by decide +kernel
theorem dX5_shortest_46 : decode cX5_shortest 46 = .ok (.invokevirtual 210, 3) := by decide +kernel
theorem dX5_shortest_49 : decode cX5_shortest 49 = .ok (.goto 12, 3) := by decide +kernel
theorem dX5_shortest_52 : decode cX5_shortest 52 = .ok (.aload_n 0, 1) := by decide +kernel
theorem dX5_shortest_53 : decode cX5_shortest 53 = .ok (.getfield 39, 3) := by decide +kernel
theorem dX5_shortest_56 : decode cX5_shortest 56 = .ok (.iload_n 1, 1) := by decide +kernel
theorem dX5_shortest_57 : decode cX5_shortest 57 = .ok (.iload_n 2, 1) := by decide +kernel
theorem dX5_shortest_58 : decode cX5_shortest 58 = .ok (.invokevirtual 213, 3) := by decide +kernel
theorem dX5_shortest_61 : decode cX5_shortest 61 = .ok (.ireturn, 1) := by decide +kernel
theorem dX5_sorts_0 : decode cX5_sorts 0 = .ok (.aload_n 0, 1) := by decide +kernel
theorem dX5_sorts_1 : decode cX5_sorts 1 = .ok (.getfield 39, 3) := by decide +kernel
theorem dX5_sorts_4 : decode cX5_sorts 4 = .ok (.aload_n 0, 1) := by decide +kernel
theorem dX5_sorts_5 : decode cX5_sorts 5 = .ok (.getfield 10, 3) := by decide +kernel
theorem dX5_sorts_8 : decode cX5_sorts 8 = .ok (.aload_n 0, 1) := by decide +kernel
theorem dX5_sorts_9 : decode cX5_sorts 9 = .ok (.getfield 10, 3) := by decide +kernel
theorem dX5_sorts_12 : decode cX5_sorts 12 = .ok (.invokevirtual 62, 3) := by decide +kernel
theorem dX5_sorts_15 : decode cX5_sorts 15 = .ok (.invokevirtual 206, 3) := by decide +kernel
theorem dX5_sorts_18 : decode cX5_sorts 18 = .ok (.aload_n 0, 1) := by decide +kernel
theorem dX5_sorts_19 : decode cX5_sorts 19 = .ok (.getfield 39, 3) := by decide +kernel
theorem dX5_sorts_22 : decode cX5_sorts 22 = .ok (.getfield 216, 3) := by decide +kernel
theorem dX5_sorts_25 : decode cX5_sorts 25 = .ok (.ireturn, 1) := by decide +kernel
theorem dX5_apart_0 : decode cX5_apart 0 = .ok (.aload_n 0, 1) := by decide +kernel
theorem dX5_apart_1 : decode cX5_apart 1 = .ok (.getfield 10, 3) := by decide +kernel
theorem dX5_apart_4 : decode cX5_apart 4 = .ok (.iload_n 1, 1) := by decide +kernel
theorem dX5_apart_5 : decode cX5_apart 5 = .ok (.invokevirtual 121, 3) := by decide +kernel
theorem dX5_apart_8 : decode cX5_apart 8 = .ok (.ifCond .eq 28, 3) := by decide +kernel
theorem dX5_apart_11 : decode cX5_apart 11 = .ok (.aload_n 0, 1) := by decide +kernel
theorem dX5_apart_12 : decode cX5_apart 12 = .ok (.getfield 10, 3) := by decide +kernel
theorem dX5_apart_15 : decode cX5_apart 15 = .ok (.iload_n 2, 1) := by decide +kernel
theorem dX5_apart_16 : decode cX5_apart 16 = .ok (.invokevirtual 121, 3) := by decide +kernel
theorem dX5_apart_19 : decode cX5_apart 19 = .ok (.ifCond .eq 17, 3) := by decide +kernel
theorem dX5_apart_22 : decode cX5_apart 22 = .ok (.iload_n 1, 1) := by decide +kernel
theorem dX5_apart_23 : decode cX5_apart 23 = .ok (.iload_n 2, 1) := by decide +kernel
theorem dX5_apart_24 : decode cX5_apart 24 = .ok (.if_icmp .eq 12, 3) := by decide +kernel
theorem dX5_apart_27 : decode cX5_apart 27 = .ok (.iload_n 3, 1) := by decide +kernel
theorem dX5_apart_28 : decode cX5_apart 28 = .ok (.iconst 0, 1) := by decide +kernel
theorem dX5_apart_29 : decode cX5_apart 29 = .ok (.iconst 1, 1) := by decide +kernel
theorem dX5_apart_30 : decode cX5_apart 30 = .ok (.invokestatic 83, 3) := by decide +kernel
theorem dX5_apart_33 : decode cX5_apart 33 = .ok (.ifCond .ne 5, 3) := by decide +kernel
theorem dX5_apart_36 : decode cX5_apart 36 = .ok (.iconst (-1), 1) := by decide +kernel
theorem dX5_apart_37 : decode cX5_apart 37 = .ok (.ireturn, 1) := by decide +kernel
theorem dX5_apart_38 : decode cX5_apart 38 = .ok (.aload_n 0, 1) := by decide +kernel
theorem dX5_apart_39 : decode cX5_apart 39 = .ok (.getfield 10, 3) := by decide +kernel
theorem dX5_apart_42 : decode cX5_apart 42 = .ok (.getfield 124, 3) := by decide +kernel
theorem dX5_apart_45 : decode cX5_apart 45 = .ok (.iload_n 1, 1) := by decide +kernel
theorem dX5_apart_46 : decode cX5_apart 46 = .ok (.iaload, 1) := by decide +kernel
theorem dX5_apart_47 : decode cX5_apart 47 = .ok (.bipush (-4), 2) := by decide +kernel
theorem dX5_apart_49 : decode cX5_apart 49 = .ok (.if_icmp .eq 17, 3) := by decide +kernel
theorem dX5_apart_52 : decode cX5_apart 52 = .ok (.aload_n 0, 1) := by decide +kernel
theorem dX5_apart_53 : decode cX5_apart 53 = .ok (.getfield 10, 3) := by decide +kernel
theorem dX5_apart_56 : decode cX5_apart 56 = .ok (.getfield 124, 3) := by decide +kernel
theorem dX5_apart_59 : decode cX5_apart 59 = .ok (.iload_n 2, 1) := by decide +kernel
theorem dX5_apart_60 : decode cX5_apart 60 = .ok (.iaload, 1) := by decide +kernel
theorem dX5_apart_61 : decode cX5_apart 61 = .ok (.bipush (-4), 2) := by decide +kernel
theorem dX5_apart_63 : decode cX5_apart 63 = .ok (.if_icmp .ne 6, 3) := by decide +kernel
theorem dX5_apart_66 : decode cX5_apart 66 = .ok (.bipush (-2), 2) := by decide +kernel
theorem dX5_apart_68 : decode cX5_apart 68 = .ok (.ireturn, 1) := by decide +kernel
theorem dX5_apart_69 : decode cX5_apart 69 = .ok (.aload_n 0, 1) := by decide +kernel
theorem dX5_apart_70 : decode cX5_apart 70 = .ok (.getfield 39, 3) := by decide +kernel
theorem dX5_apart_73 : decode cX5_apart 73 = .ok (.aload_n 0, 1) := by decide +kernel
theorem dX5_apart_74 : decode cX5_apart 74 = .ok (.getfield 10, 3) := by decide +kernel
theorem dX5_apart_77 : decode cX5_apart 77 = .ok (.aload_n 0, 1) := by decide +kernel
theorem dX5_apart_78 : decode cX5_apart 78 = .ok (.getfield 10, 3) := by decide +kernel
theorem dX5_apart_81 : decode cX5_apart 81 = .ok (.getfield 124, 3) := by decide +kernel
theorem dX5_apart_84 : decode cX5_apart 84 = .ok (.iload_n 1, 1) := by decide +kernel
theorem dX5_apart_85 : decode cX5_apart 85 = .ok (.iaload, 1) := by decide +kernel
theorem dX5_apart_86 : decode cX5_apart 86 = .ok (.invokestatic 194, 3) := by decide +kernel
theorem dX5_apart_89 : decode cX5_apart 89 = .ok (.aload_n 0, 1) := by decide +kernel
theorem dX5_apart_90 : decode cX5_apart 90 = .ok (.getfield 10, 3) := by decide +kernel
theorem dX5_apart_93 : decode cX5_apart 93 = .ok (.getfield 124, 3) := by decide +kernel
theorem dX5_apart_96 : decode cX5_apart 96 = .ok (.iload_n 2, 1) := by decide +kernel
theorem dX5_apart_97 : decode cX5_apart 97 = .ok (.iaload, 1) := by decide +kernel
theorem dX5_apart_98 : decode cX5_apart 98 = .ok (.invokestatic 194, 3) := by decide +kernel
theorem dX5_apart_101 : decode cX5_apart 101 = .ok (.ior, 1) := by decide +kernel
theorem dX5_apart_102 : decode cX5_apart 102 = .ok (.invokevirtual 206, 3) := by decide +kernel
theorem dX5_apart_105 : decode cX5_apart 105 = .ok (.aload_n 0, 1) := by decide +kernel
theorem dX5_apart_106 : decode cX5_apart 106 = .ok (.getfield 39, 3) := by decide +kernel
theorem dX5_apart_109 : decode cX5_apart 109 = .ok (.invokevirtual 219, 3) := by decide +kernel
theorem dX5_apart_112 : decode cX5_apart 112 = .ok (.istore 4, 2) := by decide +kernel
theorem dX5_apart_114 : decode cX5_apart 114 = .ok (.iload_n 3, 1) := by decide +kernel
theorem dX5_apart_115 : decode cX5_apart 115 = .ok (.ifCond .ne 15, 3) := by decide +kernel
theorem dX5_apart_118 : decode cX5_apart 118 = .ok (.aload_n 0, 1) := by decide +kernel
theorem dX5_apart_119 : decode cX5_apart 119 = .ok (.getfield 39, 3) := by decide +kernel
theorem dX5_apart_122 : decode cX5_apart 122 = .ok (.iload 4, 2) := by decide +kernel
theorem dX5_apart_124 : decode cX5_apart 124 = .ok (.invokevirtual 210, 3) := by decide +kernel
theorem dX5_apart_127 : decode cX5_apart 127 = .ok (.goto 8, 3) := by decide +kernel
theorem dX5_apart_130 : decode cX5_apart 130 = .ok (.iload 4, 2) := by decide +kernel
theorem dX5_apart_132 : decode cX5_apart 132 = .ok (.invokestatic 222, 3) := by decide +kernel
theorem dX5_apart_135 : decode cX5_apart 135 = .ok (.ireturn, 1) := by decide +kernel
theorem dX5_chance_0 : decode cX5_chance 0 = .ok (.aload_n 0, 1) := by decide +kernel
theorem dX5_chance_1 : decode cX5_chance 1 = .ok (.getfield 10, 3) := by decide +kernel
theorem dX5_chance_4 : decode cX5_chance 4 = .ok (.iload_n 1, 1) := by decide +kernel
theorem dX5_chance_5 : decode cX5_chance 5 = .ok (.invokevirtual 121, 3) := by decide +kernel
theorem dX5_chance_8 : decode cX5_chance 8 = .ok (.ifCond .eq 30, 3) := by decide +kernel
theorem dX5_chance_11 : decode cX5_chance 11 = .ok (.iload_n 2, 1) := by decide +kernel
theorem dX5_chance_12 : decode cX5_chance 12 = .ok (.invokestatic 54, 3) := by decide +kernel
theorem dX5_chance_15 : decode cX5_chance 15 = .ok (.ifCond .eq 23, 3) := by decide +kernel
theorem dX5_chance_18 : decode cX5_chance 18 = .ok (.iload_n 3, 1) := by decide +kernel
theorem dX5_chance_19 : decode cX5_chance 19 = .ok (.iconst 0, 1) := by decide +kernel
theorem dX5_chance_20 : decode cX5_chance 20 = .ok (.bipush 8, 2) := by decide +kernel
theorem dX5_chance_22 : decode cX5_chance 22 = .ok (.invokestatic 83, 3) := by decide +kernel
theorem dX5_chance_25 : decode cX5_chance 25 = .ok (.ifCond .eq 13, 3) := by decide +kernel
theorem dX5_chance_28 : decode cX5_chance 28 = .ok (.iload 4, 2) := by decide +kernel
theorem dX5_chance_30 : decode cX5_chance 30 = .ok (.iconst 0, 1) := by decide +kernel
theorem dX5_chance_31 : decode cX5_chance 31 = .ok (.iconst 1, 1) := by decide +kernel
theorem dX5_chance_32 : decode cX5_chance 32 = .ok (.invokestatic 83, 3) := by decide +kernel
theorem dX5_chance_35 : decode cX5_chance 35 = .ok (.ifCond .ne 5, 3) := by decide +kernel
theorem dX5_chance_38 : decode cX5_chance 38 = .ok (.iconst (-1), 1) := by decide +kernel
theorem dX5_chance_39 : decode cX5_chance 39 = .ok (.ireturn, 1) := by decide +kernel
theorem dX5_chance_40 : decode cX5_chance 40 = .ok (.aload_n 0, 1) := by decide +kernel
theorem dX5_chance_41 : decode cX5_chance 41 = .ok (.getfield 10, 3) := by decide +kernel
theorem dX5_chance_44 : decode cX5_chance 44 = .ok (.getfield 124, 3) := by decide +kernel
theorem dX5_chance_47 : decode cX5_chance 47 = .ok (.iload_n 1, 1) := by decide +kernel
theorem dX5_chance_48 : decode cX5_chance 48 = .ok (.iaload, 1) := by decide +kernel
theorem dX5_chance_49 : decode cX5_chance 49 = .ok (.bipush (-4), 2) := by decide +kernel
theorem dX5_chance_51 : decode cX5_chance 51 = .ok (.if_icmp .eq 13, 3) := by decide +kernel
theorem dX5_chance_54 : decode cX5_chance 54 = .ok (.aload_n 0, 1) := by decide +kernel
theorem dX5_chance_55 : decode cX5_chance 55 = .ok (.getfield 10, 3) := by decide +kernel
theorem dX5_chance_58 : decode cX5_chance 58 = .ok (.getfield 87, 3) := by decide +kernel
theorem dX5_chance_61 : decode cX5_chance 61 = .ok (.ifCond .gt 6, 3) := by decide +kernel
theorem dX5_chance_64 : decode cX5_chance 64 = .ok (.bipush (-2), 2) := by decide +kernel
theorem dX5_chance_66 : decode cX5_chance 66 = .ok (.ireturn, 1) := by decide +kernel
theorem dX5_chance_67 : decode cX5_chance 67 = .ok (.aload_n 0, 1) := by decide +kernel
theorem dX5_chance_68 : decode cX5_chance 68 = .ok (.aload_n 0, 1) := by decide +kernel
theorem dX5_chance_69 : decode cX5_chance 69 = .ok (.getfield 10, 3) := by decide +kernel
theorem dX5_chance_72 : decode cX5_chance 72 = .ok (.getfield 124, 3) := by decide +kernel
theorem dX5_chance_75 : decode cX5_chance 75 = .ok (.iload_n 1, 1) := by decide +kernel
theorem dX5_chance_76 : decode cX5_chance 76 = .ok (.iaload, 1) := by decide +kernel
theorem dX5_chance_77 : decode cX5_chance 77 = .ok (.iload_n 3, 1) := by decide +kernel
theorem dX5_chance_78 : decode cX5_chance 78 = .ok (.invokevirtual 225, 3) := by decide +kernel
theorem dX5_chance_81 : decode cX5_chance 81 = .ok (.iconst 1, 1) := by decide +kernel
theorem dX5_chance_82 : decode cX5_chance 82 = .ok (.istore 5, 2) := by decide +kernel
theorem dX5_chance_84 : decode cX5_chance 84 = .ok (.iconst 0, 1) := by decide +kernel
theorem dX5_chance_85 : decode cX5_chance 85 = .ok (.istore 6, 2) := by decide +kernel
theorem dX5_chance_87 : decode cX5_chance 87 = .ok (.iload 6, 2) := by decide +kernel
theorem dX5_chance_89 : decode cX5_chance 89 = .ok (.iload_n 3, 1) := by decide +kernel
theorem dX5_chance_90 : decode cX5_chance 90 = .ok (.if_icmp .ge 21, 3) := by decide +kernel
theorem dX5_chance_93 : decode cX5_chance 93 = .ok (.iload 5, 2) := by decide +kernel
theorem dX5_chance_95 : decode cX5_chance 95 = .ok (.aload_n 0, 1) := by decide +kernel
theorem dX5_chance_96 : decode cX5_chance 96 = .ok (.getfield 10, 3) := by decide +kernel
theorem dX5_chance_99 : decode cX5_chance 99 = .ok (.getfield 87, 3) := by decide +kernel
theorem dX5_chance_102 : decode cX5_chance 102 = .ok (.imul, 1) := by decide +kernel
theorem dX5_chance_103 : decode cX5_chance 103 = .ok (.istore 5, 2) := by decide +kernel
theorem dX5_chance_105 : decode cX5_chance 105 = .ok (.iinc 6 1, 3) := by decide +kernel
theorem dX5_chance_108 : decode cX5_chance 108 = .ok (.goto (-21), 3) := by decide +kernel
theorem dX5_chance_111 : decode cX5_chance 111 = .ok (.aload_n 0, 1) := by decide +kernel
theorem dX5_chance_112 : decode cX5_chance 112 = .ok (.getfield 43, 3) := by decide +kernel
theorem dX5_chance_115 : decode cX5_chance 115 = .ok (.iload_n 2, 1) := by decide +kernel
theorem dX5_chance_116 : decode cX5_chance 116 = .ok (.iaload, 1) := by decide +kernel
theorem dX5_chance_117 : decode cX5_chance 117 = .ok (.iload 5, 2) := by decide +kernel
theorem dX5_chance_119 : decode cX5_chance 119 = .ok (.invokestatic 229, 3) := by decide +kernel
theorem dX5_chance_122 : decode cX5_chance 122 = .ok (.istore 6, 2) := by decide +kernel
theorem dX5_chance_124 : decode cX5_chance 124 = .ok (.iload 6, 2) := by decide +kernel
theorem dX5_chance_126 : decode cX5_chance 126 = .ok (.ifCond .gt 6, 3) := by decide +kernel
theorem dX5_chance_129 : decode cX5_chance 129 = .ok (.bipush (-4), 2) := by decide +kernel
theorem dX5_chance_131 : decode cX5_chance 131 = .ok (.ireturn, 1) := by decide +kernel
theorem dX5_chance_132 : decode cX5_chance 132 = .ok (.iload 4, 2) := by decide +kernel
theorem dX5_chance_134 : decode cX5_chance 134 = .ok (.ifCond .ne 12, 3) := by decide +kernel
theorem dX5_chance_137 : decode cX5_chance 137 = .ok (.aload_n 0, 1) := by decide +kernel
theorem dX5_chance_138 : decode cX5_chance 138 = .ok (.getfield 43, 3) := by decide +kernel
theorem dX5_chance_141 : decode cX5_chance 141 = .ok (.iload_n 2, 1) := by decide +kernel
theorem dX5_chance_142 : decode cX5_chance 142 = .ok (.iaload, 1) := by decide +kernel
theorem dX5_chance_143 : decode cX5_chance 143 = .ok (.goto 5, 3) := by decide +kernel
theorem dX5_chance_146 : decode cX5_chance 146 = .ok (.iload 5, 2) := by decide +kernel
theorem dX5_chance_148 : decode cX5_chance 148 = .ok (.iload 6, 2) := by decide +kernel
theorem dX5_chance_150 : decode cX5_chance 150 = .ok (.idiv, 1) := by decide +kernel
theorem dX5_chance_151 : decode cX5_chance 151 = .ok (.ireturn, 1) := by decide +kernel
theorem dX5_image_0 : decode cX5_image 0 = .ok (.aload_n 0, 1) := by decide +kernel
theorem dX5_image_1 : decode cX5_image 1 = .ok (.getfield 16, 3) := by decide +kernel
theorem dX5_image_4 : decode cX5_image 4 = .ok (.aload_n 0, 1) := by decide +kernel
theorem dX5_image_5 : decode cX5_image 5 = .ok (.getfield 10, 3) := by decide +kernel
theorem dX5_image_8 : decode cX5_image 8 = .ok (.invokevirtual 150, 3) := by decide +kernel
theorem dX5_image_11 : decode cX5_image 11 = .ok (.aload_n 0, 1) := by decide +kernel
theorem dX5_image_12 : decode cX5_image 12 = .ok (.iconst 1, 1) := by decide +kernel
theorem dX5_image_13 : decode cX5_image 13 = .ok (.putfield 50, 3) := by decide +kernel
theorem dX5_image_16 : decode cX5_image 16 = .ok (.iconst 1, 1) := by decide +kernel
theorem dX5_image_17 : decode cX5_image 17 = .ok (.ireturn, 1) := by decide +kernel
theorem dX5_restore_0 : decode cX5_restore 0 = .ok (.aload_n 0, 1) := by decide +kernel
theorem dX5_restore_1 : decode cX5_restore 1 = .ok (.getfield 50, 3) := by decide +kernel
theorem dX5_restore_4 : decode cX5_restore 4 = .ok (.ifCond .ne 6, 3) := by decide +kernel
theorem dX5_restore_7 : decode cX5_restore 7 = .ok (.bipush (-4), 2) := by decide +kernel
theorem dX5_restore_9 : decode cX5_restore 9 = .ok (.ireturn, 1) := by decide +kernel
theorem dX5_restore_10 : decode cX5_restore 10 = .ok (.aload_n 0, 1) := by decide +kernel
theorem dX5_restore_11 : decode cX5_restore 11 = .ok (.getfield 10, 3) := by decide +kernel
theorem dX5_restore_14 : decode cX5_restore 14 = .ok (.aload_n 0, 1) := by decide +kernel
theorem dX5_restore_15 : decode cX5_restore 15 = .ok (.getfield 16, 3) := by decide +kernel
theorem dX5_restore_18 : decode cX5_restore 18 = .ok (.invokevirtual 150, 3) := by decide +kernel
theorem dX5_restore_21 : decode cX5_restore 21 = .ok (.iconst 1, 1) := by decide +kernel
theorem dX5_restore_22 : decode cX5_restore 22 = .ok (.ireturn, 1) := by decide +kernel
theorem dX5_counts_0 : decode cX5_counts 0 = .ok (.iload_n 1, 1) := by decide +kernel
theorem dX5_counts_1 : decode cX5_counts 1 = .ok (.invokestatic 54, 3) := by decide +kernel
theorem dX5_counts_4 : decode cX5_counts 4 = .ok (.ifCond .eq 38, 3) := by decide +kernel
theorem dX5_counts_7 : decode cX5_counts 7 = .ok (.iload_n 2, 1) := by decide +kernel
theorem dX5_counts_8 : decode cX5_counts 8 = .ok (.invokestatic 232, 3) := by decide +kernel
theorem dX5_counts_11 : decode cX5_counts 11 = .ok (.ifCond .eq 31, 3) := by decide +kernel
theorem dX5_counts_14 : decode cX5_counts 14 = .ok (.iload_n 3, 1) := by decide +kernel
theorem dX5_counts_15 : decode cX5_counts 15 = .ok (.invokestatic 235, 3) := by decide +kernel
theorem dX5_counts_18 : decode cX5_counts 18 = .ok (.ifCond .eq 24, 3) := by decide +kernel
theorem dX5_counts_21 : decode cX5_counts 21 = .ok (.iload 5, 2) := by decide +kernel
theorem dX5_counts_23 : decode cX5_counts 23 = .ok (.iconst 1, 1) := by decide +kernel
theorem dX5_counts_24 : decode cX5_counts 24 = .ok (.bipush 8, 2) := by decide +kernel
theorem dX5_counts_26 : decode cX5_counts 26 = .ok (.invokestatic 83, 3) := by decide +kernel
theorem dX5_counts_29 : decode cX5_counts 29 = .ok (.ifCond .eq 13, 3) := by decide +kernel
theorem dX5_counts_32 : decode cX5_counts 32 = .ok (.iload 6, 2) := by decide +kernel
theorem dX5_counts_34 : decode cX5_counts 34 = .ok (.iconst 0, 1) := by decide +kernel
theorem dX5_counts_35 : decode cX5_counts 35 = .ok (.iconst 2, 1) := by decide +kernel
theorem dX5_counts_36 : decode cX5_counts 36 = .ok (.invokestatic 83, 3) := by decide +kernel
theorem dX5_counts_39 : decode cX5_counts 39 = .ok (.ifCond .ne 5, 3) := by decide +kernel
theorem dX5_counts_42 : decode cX5_counts 42 = .ok (.iconst (-1), 1) := by decide +kernel
theorem dX5_counts_43 : decode cX5_counts 43 = .ok (.ireturn, 1) := by decide +kernel
theorem dX5_counts_44 : decode cX5_counts 44 = .ok (.aload_n 0, 1) := by decide +kernel
theorem dX5_counts_45 : decode cX5_counts 45 = .ok (.getfield 32, 3) := by decide +kernel
theorem dX5_counts_48 : decode cX5_counts 48 = .ok (.iload_n 2, 1) := by decide +kernel
theorem dX5_counts_49 : decode cX5_counts 49 = .ok (.iload_n 3, 1) := by decide +kernel
theorem dX5_counts_50 : decode cX5_counts 50 = .ok (.iload 4, 2) := by decide +kernel
theorem dX5_counts_52 : decode cX5_counts 52 = .ok (.iload 5, 2) := by decide +kernel
theorem dX5_counts_54 : decode cX5_counts 54 = .ok (.invokevirtual 238, 3) := by decide +kernel
theorem dX5_counts_57 : decode cX5_counts 57 = .ok (.istore 7, 2) := by decide +kernel
theorem dX5_counts_59 : decode cX5_counts 59 = .ok (.iload 7, 2) := by decide +kernel
theorem dX5_counts_61 : decode cX5_counts 61 = .ok (.ifCond .ge 6, 3) := by decide +kernel
theorem dX5_counts_64 : decode cX5_counts 64 = .ok (.iload 7, 2) := by decide +kernel
theorem dX5_counts_66 : decode cX5_counts 66 = .ok (.ireturn, 1) := by decide +kernel
theorem dX5_counts_67 : decode cX5_counts 67 = .ok (.iconst 0, 1) := by decide +kernel
theorem dX5_counts_68 : decode cX5_counts 68 = .ok (.istore 8, 2) := by decide +kernel
theorem dX5_counts_70 : decode cX5_counts 70 = .ok (.bipush (-4), 2) := by decide +kernel
theorem dX5_counts_72 : decode cX5_counts 72 = .ok (.istore 9, 2) := by decide +kernel
theorem dX5_counts_74 : decode cX5_counts 74 = .ok (.bipush (-4), 2) := by decide +kernel
theorem dX5_counts_76 : decode cX5_counts 76 = .ok (.istore 10, 2) := by decide +kernel
theorem dX5_counts_78 : decode cX5_counts 78 = .ok (.iconst 0, 1) := by decide +kernel
theorem dX5_counts_79 : decode cX5_counts 79 = .ok (.istore 11, 2) := by decide +kernel
theorem dX5_counts_81 : decode cX5_counts 81 = .ok (.iload 11, 2) := by decide +kernel
theorem dX5_counts_83 : decode cX5_counts 83 = .ok (.sipush 256, 3) := by decide +kernel
theorem dX5_counts_86 : decode cX5_counts 86 = .ok (.if_icmp .ge 64, 3) := by decide +kernel
theorem dX5_counts_89 : decode cX5_counts 89 = .ok (.aload_n 0, 1) := by decide +kernel
theorem dX5_counts_90 : decode cX5_counts 90 = .ok (.iload 11, 2) := by decide +kernel
theorem dX5_counts_92 : decode cX5_counts 92 = .ok (.iload_n 1, 1) := by decide +kernel
theorem dX5_counts_93 : decode cX5_counts 93 = .ok (.iload_n 2, 1) := by decide +kernel
theorem dX5_counts_94 : decode cX5_counts 94 = .ok (.iload 4, 2) := by decide +kernel
theorem dX5_counts_96 : decode cX5_counts 96 = .ok (.iload 5, 2) := by decide +kernel
theorem dX5_counts_98 : decode cX5_counts 98 = .ok (.invokevirtual 242, 3) := by decide +kernel
theorem dX5_counts_101 : decode cX5_counts 101 = .ok (.ifCond .eq 43, 3) := by decide +kernel
theorem dX5_counts_104 : decode cX5_counts 104 = .ok (.iload 11, 2) := by decide +kernel
theorem dX5_counts_106 : decode cX5_counts 106 = .ok (.invokestatic 179, 3) := by decide +kernel
theorem dX5_counts_109 : decode cX5_counts 109 = .ok (.istore 12, 2) := by decide +kernel
theorem dX5_counts_111 : decode cX5_counts 111 = .ok (.iinc 8 1, 3) := by decide +kernel
theorem dX5_counts_114 : decode cX5_counts 114 = .ok (.iload 9, 2) := by decide +kernel
theorem dX5_counts_116 : decode cX5_counts 116 = .ok (.bipush (-4), 2) := by decide +kernel
theorem dX5_counts_118 : decode cX5_counts 118 = .ok (.if_icmp .ne 8, 3) := by decide +kernel
theorem dX5_counts_121 : decode cX5_counts 121 = .ok (.iload 12, 2) := by decide +kernel
theorem dX5_counts_123 : decode cX5_counts 123 = .ok (.goto 10, 3) := by decide +kernel
theorem dX5_counts_126 : decode cX5_counts 126 = .ok (.iload 9, 2) := by decide +kernel
theorem dX5_counts_128 : decode cX5_counts 128 = .ok (.iload 12, 2) := by decide +kernel
theorem dX5_counts_130 : decode cX5_counts 130 = .ok (.invokestatic 246, 3) := by decide +kernel
theorem dX5_counts_133 : decode cX5_counts 133 = .ok (.istore 9, 2) := by decide +kernel
theorem dX5_counts_135 : decode cX5_counts 135 = .ok (.iload 10, 2) := by decide +kernel
theorem dX5_counts_137 : decode cX5_counts 137 = .ok (.iload 12, 2) := by decide +kernel
theorem dX5_counts_139 : decode cX5_counts 139 = .ok (.invokestatic 251, 3) := by decide +kernel
theorem dX5_counts_142 : decode cX5_counts 142 = .ok (.istore 10, 2) := by decide +kernel
theorem dX5_counts_144 : decode cX5_counts 144 = .ok (.iinc 11 1, 3) := by decide +kernel
theorem dX5_counts_147 : decode cX5_counts 147 = .ok (.goto (-66), 3) := by decide +kernel
theorem dX5_counts_150 : decode cX5_counts 150 = .ok (.iload 6, 2) := by decide +kernel
theorem dX5_counts_152 : decode cX5_counts 152 = .ok (.ifCond .ne 8, 3) := by decide +kernel
theorem dX5_counts_155 : decode cX5_counts 155 = .ok (.iload 8, 2) := by decide +kernel
theorem dX5_counts_157 : decode cX5_counts 157 = .ok (.goto 16, 3) := by decide +kernel
theorem dX5_counts_160 : decode cX5_counts 160 = .ok (.iload 6, 2) := by decide +kernel
theorem dX5_counts_162 : decode cX5_counts 162 = .ok (.iconst 1, 1) := by decide +kernel
theorem dX5_counts_163 : decode cX5_counts 163 = .ok (.if_icmp .ne 8, 3) := by decide +kernel
theorem dX5_counts_166 : decode cX5_counts 166 = .ok (.iload 9, 2) := by decide +kernel
theorem dX5_counts_168 : decode cX5_counts 168 = .ok (.goto 5, 3) := by decide +kernel
theorem dX5_counts_171 : decode cX5_counts 171 = .ok (.iload 10, 2) := by decide +kernel
theorem dX5_counts_173 : decode cX5_counts 173 = .ok (.ireturn, 1) := by decide +kernel
theorem dX5_steps_0 : decode cX5_steps 0 = .ok (.aload_n 0, 1) := by decide +kernel
theorem dX5_steps_1 : decode cX5_steps 1 = .ok (.getfield 10, 3) := by decide +kernel
theorem dX5_steps_4 : decode cX5_steps 4 = .ok (.iload_n 1, 1) := by decide +kernel
theorem dX5_steps_5 : decode cX5_steps 5 = .ok (.invokevirtual 121, 3) := by decide +kernel
theorem dX5_steps_8 : decode cX5_steps 8 = .ok (.ifCond .eq 29, 3) := by decide +kernel
theorem dX5_steps_11 : decode cX5_steps 11 = .ok (.aload_n 0, 1) := by decide +kernel
theorem dX5_steps_12 : decode cX5_steps 12 = .ok (.getfield 10, 3) := by decide +kernel
theorem dX5_steps_15 : decode cX5_steps 15 = .ok (.iload_n 2, 1) := by decide +kernel
theorem dX5_steps_16 : decode cX5_steps 16 = .ok (.invokevirtual 94, 3) := by decide +kernel
theorem dX5_steps_19 : decode cX5_steps 19 = .ok (.ifCond .eq 18, 3) := by decide +kernel
theorem dX5_steps_22 : decode cX5_steps 22 = .ok (.iload_n 3, 1) := by decide +kernel
theorem dX5_steps_23 : decode cX5_steps 23 = .ok (.invokestatic 232, 3) := by decide +kernel
theorem dX5_steps_26 : decode cX5_steps 26 = .ok (.ifCond .eq 11, 3) := by decide +kernel
theorem dX5_steps_29 : decode cX5_steps 29 = .ok (.iload 4, 2) := by decide +kernel
theorem dX5_steps_31 : decode cX5_steps 31 = .ok (.invokestatic 235, 3) := by decide +kernel
theorem dX5_steps_34 : decode cX5_steps 34 = .ok (.ifCond .ne 5, 3) := by decide +kernel
theorem dX5_steps_37 : decode cX5_steps 37 = .ok (.iconst (-1), 1) := by decide +kernel
theorem dX5_steps_38 : decode cX5_steps 38 = .ok (.ireturn, 1) := by decide +kernel
theorem dX5_steps_39 : decode cX5_steps 39 = .ok (.iload 6, 2) := by decide +kernel
theorem dX5_steps_41 : decode cX5_steps 41 = .ok (.iconst 1, 1) := by decide +kernel
theorem dX5_steps_42 : decode cX5_steps 42 = .ok (.bipush 8, 2) := by decide +kernel
theorem dX5_steps_44 : decode cX5_steps 44 = .ok (.invokestatic 83, 3) := by decide +kernel
theorem dX5_steps_47 : decode cX5_steps 47 = .ok (.ifCond .eq 13, 3) := by decide +kernel
theorem dX5_steps_50 : decode cX5_steps 50 = .ok (.iload 7, 2) := by decide +kernel
theorem dX5_steps_52 : decode cX5_steps 52 = .ok (.iconst 0, 1) := by decide +kernel
theorem dX5_steps_53 : decode cX5_steps 53 = .ok (.iconst 1, 1) := by decide +kernel
theorem dX5_steps_54 : decode cX5_steps 54 = .ok (.invokestatic 83, 3) := by decide +kernel
theorem dX5_steps_57 : decode cX5_steps 57 = .ok (.ifCond .ne 5, 3) := by decide +kernel
theorem dX5_steps_60 : decode cX5_steps 60 = .ok (.iconst (-1), 1) := by decide +kernel
theorem dX5_steps_61 : decode cX5_steps 61 = .ok (.ireturn, 1) := by decide +kernel
theorem dX5_steps_62 : decode cX5_steps 62 = .ok (.aload_n 0, 1) := by decide +kernel
theorem dX5_steps_63 : decode cX5_steps 63 = .ok (.getfield 32, 3) := by decide +kernel
theorem dX5_steps_66 : decode cX5_steps 66 = .ok (.iload_n 3, 1) := by decide +kernel
theorem dX5_steps_67 : decode cX5_steps 67 = .ok (.iload 4, 2) := by decide +kernel
theorem dX5_steps_69 : decode cX5_steps 69 = .ok (.iload 5, 2) := by decide +kernel
theorem dX5_steps_71 : decode cX5_steps 71 = .ok (.iload 6, 2) := by decide +kernel
theorem dX5_steps_73 : decode cX5_steps 73 = .ok (.invokevirtual 238, 3) := by decide +kernel
theorem dX5_steps_76 : decode cX5_steps 76 = .ok (.istore 8, 2) := by decide +kernel
theorem dX5_steps_78 : decode cX5_steps 78 = .ok (.iload 8, 2) := by decide +kernel
theorem dX5_steps_80 : decode cX5_steps 80 = .ok (.ifCond .ge 6, 3) := by decide +kernel
theorem dX5_steps_83 : decode cX5_steps 83 = .ok (.iload 8, 2) := by decide +kernel
theorem dX5_steps_85 : decode cX5_steps 85 = .ok (.ireturn, 1) := by decide +kernel
theorem dX5_steps_86 : decode cX5_steps 86 = .ok (.aload_n 0, 1) := by decide +kernel
theorem dX5_steps_87 : decode cX5_steps 87 = .ok (.getfield 10, 3) := by decide +kernel
theorem dX5_steps_90 : decode cX5_steps 90 = .ok (.getfield 124, 3) := by decide +kernel
theorem dX5_steps_93 : decode cX5_steps 93 = .ok (.iload_n 1, 1) := by decide +kernel
theorem dX5_steps_94 : decode cX5_steps 94 = .ok (.iaload, 1) := by decide +kernel
theorem dX5_steps_95 : decode cX5_steps 95 = .ok (.bipush (-4), 2) := by decide +kernel
theorem dX5_steps_97 : decode cX5_steps 97 = .ok (.if_icmp .ne 6, 3) := by decide +kernel
theorem dX5_steps_100 : decode cX5_steps 100 = .ok (.bipush (-2), 2) := by decide +kernel
theorem dX5_steps_102 : decode cX5_steps 102 = .ok (.ireturn, 1) := by decide +kernel
theorem dX5_steps_103 : decode cX5_steps 103 = .ok (.aload_n 0, 1) := by decide +kernel
theorem dX5_steps_104 : decode cX5_steps 104 = .ok (.getfield 19, 3) := by decide +kernel
theorem dX5_steps_107 : decode cX5_steps 107 = .ok (.aload_n 0, 1) := by decide +kernel
theorem dX5_steps_108 : decode cX5_steps 108 = .ok (.getfield 10, 3) := by decide +kernel
theorem dX5_steps_111 : decode cX5_steps 111 = .ok (.invokevirtual 150, 3) := by decide +kernel
theorem dX5_steps_114 : decode cX5_steps 114 = .ok (.iconst 0, 1) := by decide +kernel
theorem dX5_steps_115 : decode cX5_steps 115 = .ok (.istore 9, 2) := by decide +kernel
theorem dX5_steps_117 : decode cX5_steps 117 = .ok (.iload 7, 2) := by decide +kernel
theorem dX5_steps_119 : decode cX5_steps 119 = .ok (.ifCond .ne 7, 3) := by decide +kernel
theorem dX5_steps_122 : decode cX5_steps 122 = .ok (.iconst 5, 1) := by decide +kernel
theorem dX5_steps_123 : decode cX5_steps 123 = .ok (.goto 5, 3) := by decide +kernel
theorem dX5_steps_126 : decode cX5_steps 126 = .ok (.bipush 8, 2) := by decide +kernel
theorem dX5_steps_128 : decode cX5_steps 128 = .ok (.istore 10, 2) := by decide +kernel
theorem dX5_steps_130 : decode cX5_steps 130 = .ok (.iconst 0, 1) := by decide +kernel
theorem dX5_steps_131 : decode cX5_steps 131 = .ok (.istore 11, 2) := by decide +kernel
theorem dX5_steps_133 : decode cX5_steps 133 = .ok (.iload 11, 2) := by decide +kernel
theorem dX5_steps_135 : decode cX5_steps 135 = .ok (.iload 10, 2) := by decide +kernel
theorem dX5_steps_137 : decode cX5_steps 137 = .ok (.if_icmp .ge 81, 3) := by decide +kernel
theorem dX5_steps_140 : decode cX5_steps 140 = .ok (.iload 7, 2) := by decide +kernel
theorem dX5_steps_142 : decode cX5_steps 142 = .ok (.ifCond .ne 25, 3) := by decide +kernel
theorem dX5_steps_145 : decode cX5_steps 145 = .ok (.aload_n 0, 1) := by decide +kernel
theorem dX5_steps_146 : decode cX5_steps 146 = .ok (.getfield 19, 3) := by decide +kernel
theorem dX5_steps_149 : decode cX5_steps 149 = .ok (.iload_n 2, 1) := by decide +kernel
theorem dX5_steps_150 : decode cX5_steps 150 = .ok (.iload 11, 2) := by decide +kernel
theorem dX5_steps_152 : decode cX5_steps 152 = .ok (.aload_n 0, 1) := by decide +kernel
theorem dX5_steps_153 : decode cX5_steps 153 = .ok (.getfield 10, 3) := by decide +kernel
theorem dX5_steps_156 : decode cX5_steps 156 = .ok (.getfield 106, 3) := by decide +kernel
theorem dX5_steps_159 : decode cX5_steps 159 = .ok (.iload_n 2, 1) := by decide +kernel
theorem dX5_steps_160 : decode cX5_steps 160 = .ok (.iaload, 1) := by decide +kernel
theorem dX5_steps_161 : decode cX5_steps 161 = .ok (.invokevirtual 254, 3) := by decide +kernel
theorem dX5_steps_164 : decode cX5_steps 164 = .ok (.goto 22, 3) := by decide +kernel
theorem dX5_steps_167 : decode cX5_steps 167 = .ok (.aload_n 0, 1) := by decide +kernel
theorem dX5_steps_168 : decode cX5_steps 168 = .ok (.getfield 19, 3) := by decide +kernel
theorem dX5_steps_171 : decode cX5_steps 171 = .ok (.iload_n 2, 1) := by decide +kernel
theorem dX5_steps_172 : decode cX5_steps 172 = .ok (.aload_n 0, 1) := by decide +kernel
theorem dX5_steps_173 : decode cX5_steps 173 = .ok (.getfield 10, 3) := by decide +kernel
theorem dX5_steps_176 : decode cX5_steps 176 = .ok (.getfield 103, 3) := by decide +kernel
theorem dX5_steps_179 : decode cX5_steps 179 = .ok (.iload_n 2, 1) := by decide +kernel
theorem dX5_steps_180 : decode cX5_steps 180 = .ok (.iaload, 1) := by decide +kernel
theorem dX5_steps_181 : decode cX5_steps 181 = .ok (.iload 11, 2) := by decide +kernel
theorem dX5_steps_183 : decode cX5_steps 183 = .ok (.invokevirtual 254, 3) := by decide +kernel
theorem dX5_steps_186 : decode cX5_steps 186 = .ok (.aload_n 0, 1) := by decide +kernel
theorem dX5_steps_187 : decode cX5_steps 187 = .ok (.aload_n 0, 1) := by decide +kernel
theorem dX5_steps_188 : decode cX5_steps 188 = .ok (.getfield 19, 3) := by decide +kernel
theorem dX5_steps_191 : decode cX5_steps 191 = .ok (.iload_n 1, 1) := by decide +kernel
theorem dX5_steps_192 : decode cX5_steps 192 = .ok (.iload_n 3, 1) := by decide +kernel
theorem dX5_steps_193 : decode cX5_steps 193 = .ok (.iload 5, 2) := by decide +kernel
theorem dX5_steps_195 : decode cX5_steps 195 = .ok (.iload 6, 2) := by decide +kernel
theorem dX5_steps_197 : decode cX5_steps 197 = .ok (.invokevirtual 258, 3) := by decide +kernel
theorem dX5_steps_200 : decode cX5_steps 200 = .ok (.ifCond .eq 12, 3) := by decide +kernel
theorem dX5_steps_203 : decode cX5_steps 203 = .ok (.iload 9, 2) := by decide +kernel
theorem dX5_steps_205 : decode cX5_steps 205 = .ok (.iconst 1, 1) := by decide +kernel
theorem dX5_steps_206 : decode cX5_steps 206 = .ok (.iload 11, 2) := by decide +kernel
theorem dX5_steps_208 : decode cX5_steps 208 = .ok (.ishl, 1) := by decide +kernel
theorem dX5_steps_209 : decode cX5_steps 209 = .ok (.ior, 1) := by decide +kernel
theorem dX5_steps_210 : decode cX5_steps 210 = .ok (.istore 9, 2) := by decide +kernel
theorem dX5_steps_212 : decode cX5_steps 212 = .ok (.iinc 11 1, 3) := by decide +kernel
theorem dX5_steps_215 : decode cX5_steps 215 = .ok (.goto (-82), 3) := by decide +kernel
theorem dX5_steps_218 : decode cX5_steps 218 = .ok (.iload 9, 2) := by decide +kernel
theorem dX5_steps_220 : decode cX5_steps 220 = .ok (.ireturn, 1) := by decide +kernel
theorem dX5_film_0 : decode cX5_film 0 = .ok (.aload_n 0, 1) := by decide +kernel
theorem dX5_film_1 : decode cX5_film 1 = .ok (.getfield 10, 3) := by decide +kernel
theorem dX5_film_4 : decode cX5_film 4 = .ok (.iload_n 1, 1) := by decide +kernel
theorem dX5_film_5 : decode cX5_film 5 = .ok (.invokevirtual 121, 3) := by decide +kernel
theorem dX5_film_8 : decode cX5_film 8 = .ok (.ifCond .eq 28, 3) := by decide +kernel
theorem dX5_film_11 : decode cX5_film 11 = .ok (.iload_n 2, 1) := by decide +kernel
theorem dX5_film_12 : decode cX5_film 12 = .ok (.iconst 1, 1) := by decide +kernel
theorem dX5_film_13 : decode cX5_film 13 = .ok (.bipush 24, 2) := by decide +kernel
theorem dX5_film_15 : decode cX5_film 15 = .ok (.invokestatic 83, 3) := by decide +kernel
theorem dX5_film_18 : decode cX5_film 18 = .ok (.ifCond .eq 18, 3) := by decide +kernel
theorem dX5_film_21 : decode cX5_film 21 = .ok (.iload_n 3, 1) := by decide +kernel
theorem dX5_film_22 : decode cX5_film 22 = .ok (.invokestatic 232, 3) := by decide +kernel
theorem dX5_film_25 : decode cX5_film 25 = .ok (.ifCond .eq 11, 3) := by decide +kernel
theorem dX5_film_28 : decode cX5_film 28 = .ok (.iload 4, 2) := by decide +kernel
theorem dX5_film_30 : decode cX5_film 30 = .ok (.invokestatic 235, 3) := by decide +kernel
theorem dX5_film_33 : decode cX5_film 33 = .ok (.ifCond .ne 5, 3) := by decide +kernel
theorem dX5_film_36 : decode cX5_film 36 = .ok (.iconst (-1), 1) := by decide +kernel
theorem dX5_film_37 : decode cX5_film 37 = .ok (.ireturn, 1) := by decide +kernel
theorem dX5_film_38 : decode cX5_film 38 = .ok (.aload_n 0, 1) := by decide +kernel
theorem dX5_film_39 : decode cX5_film 39 = .ok (.getfield 32, 3) := by decide +kernel
theorem dX5_film_42 : decode cX5_film 42 = .ok (.iload_n 3, 1) := by decide +kernel
theorem dX5_film_43 : decode cX5_film 43 = .ok (.iload 4, 2) := by decide +kernel
theorem dX5_film_45 : decode cX5_film 45 = .ok (.iload 5, 2) := by decide +kernel
theorem dX5_film_47 : decode cX5_film 47 = .ok (.iload_n 2, 1) := by decide +kernel
theorem dX5_film_48 : decode cX5_film 48 = .ok (.invokevirtual 238, 3) := by decide +kernel
theorem dX5_film_51 : decode cX5_film 51 = .ok (.istore 6, 2) := by decide +kernel
theorem dX5_film_53 : decode cX5_film 53 = .ok (.iload 6, 2) := by decide +kernel
theorem dX5_film_55 : decode cX5_film 55 = .ok (.ifCond .ge 6, 3) := by decide +kernel
theorem dX5_film_58 : decode cX5_film 58 = .ok (.iload 6, 2) := by decide +kernel
theorem dX5_film_60 : decode cX5_film 60 = .ok (.ireturn, 1) := by decide +kernel
theorem dX5_film_61 : decode cX5_film 61 = .ok (.aload_n 0, 1) := by decide +kernel
theorem dX5_film_62 : decode cX5_film 62 = .ok (.getfield 10, 3) := by decide +kernel
theorem dX5_film_65 : decode cX5_film 65 = .ok (.getfield 124, 3) := by decide +kernel
theorem dX5_film_68 : decode cX5_film 68 = .ok (.iload_n 1, 1) := by decide +kernel
theorem dX5_film_69 : decode cX5_film 69 = .ok (.iaload, 1) := by decide +kernel
theorem dX5_film_70 : decode cX5_film 70 = .ok (.istore 7, 2) := by decide +kernel
theorem dX5_film_72 : decode cX5_film 72 = .ok (.iconst 0, 1) := by decide +kernel
theorem dX5_film_73 : decode cX5_film 73 = .ok (.istore 8, 2) := by decide +kernel
theorem dX5_film_75 : decode cX5_film 75 = .ok (.iload 8, 2) := by decide +kernel
theorem dX5_film_77 : decode cX5_film 77 = .ok (.iload_n 2, 1) := by decide +kernel
theorem dX5_film_78 : decode cX5_film 78 = .ok (.if_icmp .ge 46, 3) := by decide +kernel
theorem dX5_film_81 : decode cX5_film 81 = .ok (.aload_n 0, 1) := by decide +kernel
theorem dX5_film_82 : decode cX5_film 82 = .ok (.getfield 10, 3) := by decide +kernel
theorem dX5_film_85 : decode cX5_film 85 = .ok (.iload 7, 2) := by decide +kernel
theorem dX5_film_87 : decode cX5_film 87 = .ok (.aload_n 0, 1) := by decide +kernel
theorem dX5_film_88 : decode cX5_film 88 = .ok (.getfield 10, 3) := by decide +kernel
theorem dX5_film_91 : decode cX5_film 91 = .ok (.getfield 154, 3) := by decide +kernel
theorem dX5_film_94 : decode cX5_film 94 = .ok (.iload 8, 2) := by decide +kernel
theorem dX5_film_96 : decode cX5_film 96 = .ok (.iadd, 1) := by decide +kernel
theorem dX5_film_97 : decode cX5_film 97 = .ok (.invokevirtual 203, 3) := by decide +kernel
theorem dX5_film_100 : decode cX5_film 100 = .ok (.istore 7, 2) := by decide +kernel
theorem dX5_film_102 : decode cX5_film 102 = .ok (.aload_n 0, 1) := by decide +kernel
theorem dX5_film_103 : decode cX5_film 103 = .ok (.getfield 32, 3) := by decide +kernel
theorem dX5_film_106 : decode cX5_film 106 = .ok (.iload_n 3, 1) := by decide +kernel
theorem dX5_film_107 : decode cX5_film 107 = .ok (.iload 5, 2) := by decide +kernel
theorem dX5_film_109 : decode cX5_film 109 = .ok (.iload 8, 2) := by decide +kernel
theorem dX5_film_111 : decode cX5_film 111 = .ok (.iadd, 1) := by decide +kernel
theorem dX5_film_112 : decode cX5_film 112 = .ok (.iload 7, 2) := by decide +kernel
theorem dX5_film_114 : decode cX5_film 114 = .ok (.i2l, 1) := by decide +kernel
theorem dX5_film_115 : decode cX5_film 115 = .ok (.invokevirtual 262, 3) := by decide +kernel
theorem dX5_film_118 : decode cX5_film 118 = .ok (.iinc 8 1, 3) := by decide +kernel
theorem dX5_film_121 : decode cX5_film 121 = .ok (.goto (-46), 3) := by decide +kernel
theorem dX5_film_124 : decode cX5_film 124 = .ok (.iload_n 2, 1) := by decide +kernel
theorem dX5_film_125 : decode cX5_film 125 = .ok (.ireturn, 1) := by decide +kernel
theorem dX5_sheet_0 : decode cX5_sheet 0 = .ok (.iload_n 1, 1) := by decide +kernel
theorem dX5_sheet_1 : decode cX5_sheet 1 = .ok (.invokestatic 232, 3) := by decide +kernel
theorem dX5_sheet_4 : decode cX5_sheet 4 = .ok (.ifCond .eq 16, 3) := by decide +kernel
theorem dX5_sheet_7 : decode cX5_sheet 7 = .ok (.iload_n 2, 1) := by decide +kernel
theorem dX5_sheet_8 : decode cX5_sheet 8 = .ok (.invokestatic 235, 3) := by decide +kernel
theorem dX5_sheet_11 : decode cX5_sheet 11 = .ok (.ifCond .eq 9, 3) := by decide +kernel
theorem dX5_sheet_14 : decode cX5_sheet 14 = .ok (.iload_n 3, 1) := by decide +kernel
theorem dX5_sheet_15 : decode cX5_sheet 15 = .ok (.bipush 24, 2) := by decide +kernel
theorem dX5_sheet_17 : decode cX5_sheet 17 = .ok (.if_icmp .le 5, 3) := by decide +kernel
theorem dX5_sheet_20 : decode cX5_sheet 20 = .ok (.iconst (-1), 1) := by decide +kernel
theorem dX5_sheet_21 : decode cX5_sheet 21 = .ok (.ireturn, 1) := by decide +kernel
theorem dX5_sheet_22 : decode cX5_sheet 22 = .ok (.iload_n 3, 1) := by decide +kernel
theorem dX5_sheet_23 : decode cX5_sheet 23 = .ok (.ifCond .ge 6, 3) := by decide +kernel
theorem dX5_sheet_26 : decode cX5_sheet 26 = .ok (.bipush (-14), 2) := by decide +kernel
theorem dX5_sheet_28 : decode cX5_sheet 28 = .ok (.ireturn, 1) := by decide +kernel
theorem dX5_sheet_29 : decode cX5_sheet 29 = .ok (.aload_n 0, 1) := by decide +kernel
theorem dX5_sheet_30 : decode cX5_sheet 30 = .ok (.getfield 32, 3) := by decide +kernel
theorem dX5_sheet_33 : decode cX5_sheet 33 = .ok (.iload_n 1, 1) := by decide +kernel
theorem dX5_sheet_34 : decode cX5_sheet 34 = .ok (.iload_n 2, 1) := by decide +kernel
theorem dX5_sheet_35 : decode cX5_sheet 35 = .ok (.iload_n 3, 1) := by decide +kernel
theorem dX5_sheet_36 : decode cX5_sheet 36 = .ok (.invokevirtual 265, 3) := by decide +kernel
theorem dX5_sheet_39 : decode cX5_sheet 39 = .ok (.iload_n 3, 1) := by decide +kernel
theorem dX5_sheet_40 : decode cX5_sheet 40 = .ok (.ireturn, 1) := by decide +kernel
theorem dX5_drop_0 : decode cX5_drop 0 = .ok (.iload_n 1, 1) := by decide +kernel
theorem dX5_drop_1 : decode cX5_drop 1 = .ok (.invokestatic 232, 3) := by decide +kernel
theorem dX5_drop_4 : decode cX5_drop 4 = .ok (.ifCond .ne 5, 3) := by decide +kernel
theorem dX5_drop_7 : decode cX5_drop 7 = .ok (.iconst (-1), 1) := by decide +kernel
theorem dX5_drop_8 : decode cX5_drop 8 = .ok (.ireturn, 1) := by decide +kernel
theorem dX5_drop_9 : decode cX5_drop 9 = .ok (.aload_n 0, 1) := by decide +kernel
theorem dX5_drop_10 : decode cX5_drop 10 = .ok (.getfield 32, 3) := by decide +kernel
theorem dX5_drop_13 : decode cX5_drop 13 = .ok (.iload_n 1, 1) := by decide +kernel
theorem dX5_drop_14 : decode cX5_drop 14 = .ok (.invokevirtual 268, 3) := by decide +kernel
theorem dX5_drop_17 : decode cX5_drop 17 = .ok (.ifCond .ne 6, 3) := by decide +kernel
theorem dX5_drop_20 : decode cX5_drop 20 = .ok (.bipush (-11), 2) := by decide +kernel
theorem dX5_drop_22 : decode cX5_drop 22 = .ok (.ireturn, 1) := by decide +kernel
theorem dX5_drop_23 : decode cX5_drop 23 = .ok (.aload_n 0, 1) := by decide +kernel
theorem dX5_drop_24 : decode cX5_drop 24 = .ok (.getfield 32, 3) := by decide +kernel
theorem dX5_drop_27 : decode cX5_drop 27 = .ok (.iload_n 1, 1) := by decide +kernel
theorem dX5_drop_28 : decode cX5_drop 28 = .ok (.invokevirtual 271, 3) := by decide +kernel
theorem dX5_drop_31 : decode cX5_drop 31 = .ok (.ireturn, 1) := by decide +kernel
theorem dX5_item_0 : decode cX5_item 0 = .ok (.iload_n 1, 1) := by decide +kernel
theorem dX5_item_1 : decode cX5_item 1 = .ok (.invokestatic 232, 3) := by decide +kernel
theorem dX5_item_4 : decode cX5_item 4 = .ok (.ifCond .eq 10, 3) := by decide +kernel
theorem dX5_item_7 : decode cX5_item 7 = .ok (.iload_n 2, 1) := by decide +kernel
theorem dX5_item_8 : decode cX5_item 8 = .ok (.invokestatic 235, 3) := by decide +kernel
theorem dX5_item_11 : decode cX5_item 11 = .ok (.ifCond .ne 5, 3) := by decide +kernel
theorem dX5_item_14 : decode cX5_item 14 = .ok (.iconst (-1), 1) := by decide +kernel
theorem dX5_item_15 : decode cX5_item 15 = .ok (.ireturn, 1) := by decide +kernel
theorem dX5_item_16 : decode cX5_item 16 = .ok (.aload_n 0, 1) := by decide +kernel
theorem dX5_item_17 : decode cX5_item 17 = .ok (.getfield 32, 3) := by decide +kernel
theorem dX5_item_20 : decode cX5_item 20 = .ok (.iload_n 1, 1) := by decide +kernel
theorem dX5_item_21 : decode cX5_item 21 = .ok (.iload_n 2, 1) := by decide +kernel
theorem dX5_item_22 : decode cX5_item 22 = .ok (.iload_n 3, 1) := by decide +kernel
theorem dX5_item_23 : decode cX5_item 23 = .ok (.iconst 1, 1) := by decide +kernel
theorem dX5_item_24 : decode cX5_item 24 = .ok (.invokevirtual 238, 3) := by decide +kernel
theorem dX5_item_27 : decode cX5_item 27 = .ok (.istore 6, 2) := by decide +kernel
theorem dX5_item_29 : decode cX5_item 29 = .ok (.iload 6, 2) := by decide +kernel
theorem dX5_item_31 : decode cX5_item 31 = .ok (.ifCond .ge 6, 3) := by decide +kernel
theorem dX5_item_34 : decode cX5_item 34 = .ok (.iload 6, 2) := by decide +kernel
theorem dX5_item_36 : decode cX5_item 36 = .ok (.ireturn, 1) := by decide +kernel
theorem dX5_item_37 : decode cX5_item 37 = .ok (.aload_n 0, 1) := by decide +kernel
theorem dX5_item_38 : decode cX5_item 38 = .ok (.getfield 32, 3) := by decide +kernel
theorem dX5_item_41 : decode cX5_item 41 = .ok (.iload_n 1, 1) := by decide +kernel
theorem dX5_item_42 : decode cX5_item 42 = .ok (.iload_n 3, 1) := by decide +kernel
theorem dX5_item_43 : decode cX5_item 43 = .ok (.lload 4, 2) := by decide +kernel
theorem dX5_item_45 : decode cX5_item 45 = .ok (.invokevirtual 262, 3) := by decide +kernel
theorem dX5_item_48 : decode cX5_item 48 = .ok (.iconst 1, 1) := by decide +kernel
theorem dX5_item_49 : decode cX5_item 49 = .ok (.ireturn, 1) := by decide +kernel
theorem dX5_copy_0 : decode cX5_copy 0 = .ok (.iload_n 1, 1) := by decide +kernel
theorem dX5_copy_1 : decode cX5_copy 1 = .ok (.invokestatic 232, 3) := by decide +kernel
theorem dX5_copy_4 : decode cX5_copy 4 = .ok (.ifCond .eq 10, 3) := by decide +kernel
theorem dX5_copy_7 : decode cX5_copy 7 = .ok (.iload_n 3, 1) := by decide +kernel
theorem dX5_copy_8 : decode cX5_copy 8 = .ok (.invokestatic 232, 3) := by decide +kernel
theorem dX5_copy_11 : decode cX5_copy 11 = .ok (.ifCond .ne 5, 3) := by decide +kernel
theorem dX5_copy_14 : decode cX5_copy 14 = .ok (.iconst (-1), 1) := by decide +kernel
theorem dX5_copy_15 : decode cX5_copy 15 = .ok (.ireturn, 1) := by decide +kernel
theorem dX5_copy_16 : decode cX5_copy 16 = .ok (.aload_n 0, 1) := by decide +kernel
theorem dX5_copy_17 : decode cX5_copy 17 = .ok (.getfield 32, 3) := by decide +kernel
theorem dX5_copy_20 : decode cX5_copy 20 = .ok (.iload_n 1, 1) := by decide +kernel
theorem dX5_copy_21 : decode cX5_copy 21 = .ok (.invokevirtual 268, 3) := by decide +kernel
theorem dX5_copy_24 : decode cX5_copy 24 = .ok (.ifCond .eq 14, 3) := by decide +kernel
theorem dX5_copy_27 : decode cX5_copy 27 = .ok (.aload_n 0, 1) := by decide +kernel
theorem dX5_copy_28 : decode cX5_copy 28 = .ok (.getfield 32, 3) := by decide +kernel
theorem dX5_copy_31 : decode cX5_copy 31 = .ok (.iload_n 3, 1) := by decide +kernel
theorem dX5_copy_32 : decode cX5_copy 32 = .ok (.invokevirtual 268, 3) := by decide +kernel
theorem dX5_copy_35 : decode cX5_copy 35 = .ok (.ifCond .ne 6, 3) := by decide +kernel
theorem dX5_copy_38 : decode cX5_copy 38 = .ok (.bipush (-11), 2) := by decide +kernel
theorem dX5_copy_40 : decode cX5_copy 40 = .ok (.ireturn, 1) := by decide +kernel
theorem dX5_copy_41 : decode cX5_copy 41 = .ok (.aload_n 0, 1) := by decide +kernel
theorem dX5_copy_42 : decode cX5_copy 42 = .ok (.getfield 32, 3) := by decide +kernel
theorem dX5_copy_45 : decode cX5_copy 45 = .ok (.getfield 274, 3) := by decide +kernel
theorem dX5_copy_48 : decode cX5_copy 48 = .ok (.iload_n 1, 1) := by decide +kernel
theorem dX5_copy_49 : decode cX5_copy 49 = .ok (.iaload, 1) := by decide +kernel
theorem dX5_copy_50 : decode cX5_copy 50 = .ok (.aload_n 0, 1) := by decide +kernel
theorem dX5_copy_51 : decode cX5_copy 51 = .ok (.getfield 32, 3) := by decide +kernel
theorem dX5_copy_54 : decode cX5_copy 54 = .ok (.getfield 274, 3) := by decide +kernel
theorem dX5_copy_57 : decode cX5_copy 57 = .ok (.iload_n 3, 1) := by decide +kernel
theorem dX5_copy_58 : decode cX5_copy 58 = .ok (.iaload, 1) := by decide +kernel
theorem dX5_copy_59 : decode cX5_copy 59 = .ok (.if_icmp .eq 6, 3) := by decide +kernel
theorem dX5_copy_62 : decode cX5_copy 62 = .ok (.bipush (-12), 2) := by decide +kernel
theorem dX5_copy_64 : decode cX5_copy 64 = .ok (.ireturn, 1) := by decide +kernel
theorem dX5_copy_65 : decode cX5_copy 65 = .ok (.aload_n 0, 1) := by decide +kernel
theorem dX5_copy_66 : decode cX5_copy 66 = .ok (.getfield 32, 3) := by decide +kernel
theorem dX5_copy_69 : decode cX5_copy 69 = .ok (.iload_n 1, 1) := by decide +kernel
theorem dX5_copy_70 : decode cX5_copy 70 = .ok (.iload_n 2, 1) := by decide +kernel
theorem dX5_copy_71 : decode cX5_copy 71 = .ok (.iload 5, 2) := by decide +kernel
theorem dX5_copy_73 : decode cX5_copy 73 = .ok (.invokevirtual 277, 3) := by decide +kernel
theorem dX5_copy_76 : decode cX5_copy 76 = .ok (.ifCond .eq 18, 3) := by decide +kernel
theorem dX5_copy_79 : decode cX5_copy 79 = .ok (.aload_n 0, 1) := by decide +kernel
theorem dX5_copy_80 : decode cX5_copy 80 = .ok (.getfield 32, 3) := by decide +kernel
theorem dX5_copy_83 : decode cX5_copy 83 = .ok (.iload_n 3, 1) := by decide +kernel
theorem dX5_copy_84 : decode cX5_copy 84 = .ok (.iload 4, 2) := by decide +kernel
theorem dX5_copy_86 : decode cX5_copy 86 = .ok (.iload 5, 2) := by decide +kernel
theorem dX5_copy_88 : decode cX5_copy 88 = .ok (.invokevirtual 277, 3) := by decide +kernel
theorem dX5_copy_91 : decode cX5_copy 91 = .ok (.ifCond .ne 6, 3) := by decide +kernel
theorem dX5_copy_94 : decode cX5_copy 94 = .ok (.bipush (-13), 2) := by decide +kernel
theorem dX5_copy_96 : decode cX5_copy 96 = .ok (.ireturn, 1) := by decide +kernel
theorem dX5_copy_97 : decode cX5_copy 97 = .ok (.aload_n 0, 1) := by decide +kernel
theorem dX5_copy_98 : decode cX5_copy 98 = .ok (.getfield 32, 3) := by decide +kernel
theorem dX5_copy_101 : decode cX5_copy 101 = .ok (.iload_n 1, 1) := by decide +kernel
theorem dX5_copy_102 : decode cX5_copy 102 = .ok (.iload_n 2, 1) := by decide +kernel
theorem dX5_copy_103 : decode cX5_copy 103 = .ok (.iload_n 3, 1) := by decide +kernel
theorem dX5_copy_104 : decode cX5_copy 104 = .ok (.iload 4, 2) := by decide +kernel
theorem dX5_copy_106 : decode cX5_copy 106 = .ok (.iload 5, 2) := by decide +kernel
theorem dX5_copy_108 : decode cX5_copy 108 = .ok (.invokevirtual 280, 3) := by decide +kernel
theorem dX5_copy_111 : decode cX5_copy 111 = .ok (.iload 5, 2) := by decide +kernel
theorem dX5_copy_113 : decode cX5_copy 113 = .ok (.ireturn, 1) := by decide +kernel
theorem dX5_refusedBeats_0 : decode cX5_refusedBeats 0 = .ok (.iload_n 1, 1) := by decide +kernel
theorem dX5_refusedBeats_1 : decode cX5_refusedBeats 1 = .ok (.iconst 1, 1) := by decide +kernel
theorem dX5_refusedBeats_2 : decode cX5_refusedBeats 2 = .ok (.bipush 40, 2) := by decide +kernel
theorem dX5_refusedBeats_4 : decode cX5_refusedBeats 4 = .ok (.invokestatic 83, 3) := by decide +kernel
theorem dX5_refusedBeats_7 : decode cX5_refusedBeats 7 = .ok (.ifCond .ne 5, 3) := by decide +kernel
theorem dX5_refusedBeats_10 : decode cX5_refusedBeats 10 = .ok (.iconst (-1), 1) := by decide +kernel
theorem dX5_refusedBeats_11 : decode cX5_refusedBeats 11 = .ok (.ireturn, 1) := by decide +kernel
theorem dX5_refusedBeats_12 : decode cX5_refusedBeats 12 = .ok (.aload_n 0, 1) := by decide +kernel
theorem dX5_refusedBeats_13 : decode cX5_refusedBeats 13 = .ok (.getfield 10, 3) := by decide +kernel
theorem dX5_refusedBeats_16 : decode cX5_refusedBeats 16 = .ok (.getfield 154, 3) := by decide +kernel
theorem dX5_refusedBeats_19 : decode cX5_refusedBeats 19 = .ok (.iload_n 1, 1) := by decide +kernel
theorem dX5_refusedBeats_20 : decode cX5_refusedBeats 20 = .ok (.iadd, 1) := by decide +kernel
theorem dX5_refusedBeats_21 : decode cX5_refusedBeats 21 = .ok (.sipush 9999, 3) := by decide +kernel
theorem dX5_refusedBeats_24 : decode cX5_refusedBeats 24 = .ok (.if_icmp .le 8, 3) := by decide +kernel
theorem dX5_refusedBeats_27 : decode cX5_refusedBeats 27 = .ok (.bipush (-3), 2) := by decide +kernel
theorem dX5_refusedBeats_29 : decode cX5_refusedBeats 29 = .ok (.goto 4, 3) := by decide +kernel
theorem dX5_refusedBeats_32 : decode cX5_refusedBeats 32 = .ok (.iconst 0, 1) := by decide +kernel
theorem dX5_refusedBeats_33 : decode cX5_refusedBeats 33 = .ok (.ireturn, 1) := by decide +kernel
theorem dX5_roundsTillAllBack_0 : decode cX5_roundsTillAllBack 0 = .ok (.iconst 1, 1) := by decide +kernel
theorem dX5_roundsTillAllBack_1 : decode cX5_roundsTillAllBack 1 = .ok (.istore_n 1, 1) := by decide +kernel
theorem dX5_roundsTillAllBack_2 : decode cX5_roundsTillAllBack 2 = .ok (.iconst 0, 1) := by decide +kernel
theorem dX5_roundsTillAllBack_3 : decode cX5_roundsTillAllBack 3 = .ok (.istore_n 2, 1) := by decide +kernel
theorem dX5_roundsTillAllBack_4 : decode cX5_roundsTillAllBack 4 = .ok (.iload_n 2, 1) := by decide +kernel
theorem dX5_roundsTillAllBack_5 : decode cX5_roundsTillAllBack 5 = .ok (.aload_n 0, 1) := by decide +kernel
theorem dX5_roundsTillAllBack_6 : decode cX5_roundsTillAllBack 6 = .ok (.getfield 10, 3) := by decide +kernel
theorem dX5_roundsTillAllBack_9 : decode cX5_roundsTillAllBack 9 = .ok (.getfield 58, 3) := by decide +kernel
theorem dX5_roundsTillAllBack_12 : decode cX5_roundsTillAllBack 12 = .ok (.if_icmp .ge 45, 3) := by decide +kernel
theorem dX5_roundsTillAllBack_15 : decode cX5_roundsTillAllBack 15 = .ok (.aload_n 0, 1) := by decide +kernel
theorem dX5_roundsTillAllBack_16 : decode cX5_roundsTillAllBack 16 = .ok (.getfield 10, 3) := by decide +kernel
theorem dX5_roundsTillAllBack_19 : decode cX5_roundsTillAllBack 19 = .ok (.aload_n 0, 1) := by decide +kernel
theorem dX5_roundsTillAllBack_20 : decode cX5_roundsTillAllBack 20 = .ok (.getfield 10, 3) := by decide +kernel
theorem dX5_roundsTillAllBack_23 : decode cX5_roundsTillAllBack 23 = .ok (.getfield 124, 3) := by decide +kernel
theorem dX5_roundsTillAllBack_26 : decode cX5_roundsTillAllBack 26 = .ok (.iload_n 2, 1) := by decide +kernel
theorem dX5_roundsTillAllBack_27 : decode cX5_roundsTillAllBack 27 = .ok (.iaload, 1) := by decide +kernel
theorem dX5_roundsTillAllBack_28 : decode cX5_roundsTillAllBack 28 = .ok (.invokevirtual 200, 3) := by decide +kernel
theorem dX5_roundsTillAllBack_31 : decode cX5_roundsTillAllBack 31 = .ok (.istore_n 3, 1) := by decide +kernel
theorem dX5_roundsTillAllBack_32 : decode cX5_roundsTillAllBack 32 = .ok (.iload_n 1, 1) := by decide +kernel
theorem dX5_roundsTillAllBack_33 : decode cX5_roundsTillAllBack 33 = .ok (.iload_n 3, 1) := by decide +kernel
theorem dX5_roundsTillAllBack_34 : decode cX5_roundsTillAllBack 34 = .ok (.invokestatic 229, 3) := by decide +kernel
theorem dX5_roundsTillAllBack_37 : decode cX5_roundsTillAllBack 37 = .ok (.istore 4, 2) := by decide +kernel
theorem dX5_roundsTillAllBack_39 : decode cX5_roundsTillAllBack 39 = .ok (.iload 4, 2) := by decide +kernel
theorem dX5_roundsTillAllBack_41 : decode cX5_roundsTillAllBack 41 = .ok (.ifCond .le 10, 3) := by decide +kernel
theorem dX5_roundsTillAllBack_44 : decode cX5_roundsTillAllBack 44 = .ok (.iload_n 1, 1) := by decide +kernel
theorem dX5_roundsTillAllBack_45 : decode cX5_roundsTillAllBack 45 = .ok (.iload 4, 2) := by decide +kernel
theorem dX5_roundsTillAllBack_47 : decode cX5_roundsTillAllBack 47 = .ok (.idiv, 1) := by decide +kernel
theorem dX5_roundsTillAllBack_48 : decode cX5_roundsTillAllBack 48 = .ok (.iload_n 3, 1) := by decide +kernel
theorem dX5_roundsTillAllBack_49 : decode cX5_roundsTillAllBack 49 = .ok (.imul, 1) := by decide +kernel
theorem dX5_roundsTillAllBack_50 : decode cX5_roundsTillAllBack 50 = .ok (.istore_n 1, 1) := by decide +kernel
theorem dX5_roundsTillAllBack_51 : decode cX5_roundsTillAllBack 51 = .ok (.iinc 2 1, 3) := by decide +kernel
theorem dX5_roundsTillAllBack_54 : decode cX5_roundsTillAllBack 54 = .ok (.goto (-50), 3) := by decide +kernel
theorem dX5_roundsTillAllBack_57 : decode cX5_roundsTillAllBack 57 = .ok (.iload_n 1, 1) := by decide +kernel
theorem dX5_roundsTillAllBack_58 : decode cX5_roundsTillAllBack 58 = .ok (.ireturn, 1) := by decide +kernel
theorem dX5_countWays_0 : decode cX5_countWays 0 = .ok (.iconst 0, 1) := by decide +kernel
theorem dX5_countWays_1 : decode cX5_countWays 1 = .ok (.istore_n 3, 1) := by decide +kernel
theorem dX5_countWays_2 : decode cX5_countWays 2 = .ok (.iload_n 3, 1) := by decide +kernel
theorem dX5_countWays_3 : decode cX5_countWays 3 = .ok (.bipush 8, 2) := by decide +kernel
theorem dX5_countWays_5 : decode cX5_countWays 5 = .ok (.if_icmp .ge 25, 3) := by decide +kernel
theorem dX5_countWays_8 : decode cX5_countWays 8 = .ok (.aload_n 0, 1) := by decide +kernel
theorem dX5_countWays_9 : decode cX5_countWays 9 = .ok (.getfield 43, 3) := by decide +kernel
theorem dX5_countWays_12 : decode cX5_countWays 12 = .ok (.iload_n 3, 1) := by decide +kernel
theorem dX5_countWays_13 : decode cX5_countWays 13 = .ok (.iload_n 3, 1) := by decide +kernel
theorem dX5_countWays_14 : decode cX5_countWays 14 = .ok (.iload_n 1, 1) := by decide +kernel
theorem dX5_countWays_15 : decode cX5_countWays 15 = .ok (.if_icmp .ne 7, 3) := by decide +kernel
theorem dX5_countWays_18 : decode cX5_countWays 18 = .ok (.iconst 1, 1) := by decide +kernel
theorem dX5_countWays_19 : decode cX5_countWays 19 = .ok (.goto 4, 3) := by decide +kernel
theorem dX5_countWays_22 : decode cX5_countWays 22 = .ok (.iconst 0, 1) := by decide +kernel
theorem dX5_countWays_23 : decode cX5_countWays 23 = .ok (.iastore, 1) := by decide +kernel
theorem dX5_countWays_24 : decode cX5_countWays 24 = .ok (.iinc 3 1, 3) := by decide +kernel
theorem dX5_countWays_27 : decode cX5_countWays 27 = .ok (.goto (-25), 3) := by decide +kernel
theorem dX5_countWays_30 : decode cX5_countWays 30 = .ok (.iconst 0, 1) := by decide +kernel
theorem dX5_countWays_31 : decode cX5_countWays 31 = .ok (.istore_n 3, 1) := by decide +kernel
theorem dX5_countWays_32 : decode cX5_countWays 32 = .ok (.iload_n 3, 1) := by decide +kernel
theorem dX5_countWays_33 : decode cX5_countWays 33 = .ok (.iload_n 2, 1) := by decide +kernel
theorem dX5_countWays_34 : decode cX5_countWays 34 = .ok (.if_icmp .ge 13, 3) := by decide +kernel
theorem dX5_countWays_37 : decode cX5_countWays 37 = .ok (.aload_n 0, 1) := by decide +kernel
theorem dX5_countWays_38 : decode cX5_countWays 38 = .ok (.invokevirtual 284, 3) := by decide +kernel
theorem dX5_countWays_41 : decode cX5_countWays 41 = .ok (.iinc 3 1, 3) := by decide +kernel
theorem dX5_countWays_44 : decode cX5_countWays 44 = .ok (.goto (-12), 3) := by decide +kernel
theorem dX5_countWays_47 : decode cX5_countWays 47 = .ok (.return_, 1) := by decide +kernel
theorem dX5_countWaysOn_0 : decode cX5_countWaysOn 0 = .ok (.iconst 0, 1) := by decide +kernel
theorem dX5_countWaysOn_1 : decode cX5_countWaysOn 1 = .ok (.istore_n 1, 1) := by decide +kernel
theorem dX5_countWaysOn_2 : decode cX5_countWaysOn 2 = .ok (.iload_n 1, 1) := by decide +kernel
theorem dX5_countWaysOn_3 : decode cX5_countWaysOn 3 = .ok (.bipush 8, 2) := by decide +kernel
theorem dX5_countWaysOn_5 : decode cX5_countWaysOn 5 = .ok (.if_icmp .ge 16, 3) := by decide +kernel
theorem dX5_countWaysOn_8 : decode cX5_countWaysOn 8 = .ok (.aload_n 0, 1) := by decide +kernel
theorem dX5_countWaysOn_9 : decode cX5_countWaysOn 9 = .ok (.getfield 47, 3) := by decide +kernel
theorem dX5_countWaysOn_12 : decode cX5_countWaysOn 12 = .ok (.iload_n 1, 1) := by decide +kernel
theorem dX5_countWaysOn_13 : decode cX5_countWaysOn 13 = .ok (.iconst 0, 1) := by decide +kernel
theorem dX5_countWaysOn_14 : decode cX5_countWaysOn 14 = .ok (.iastore, 1) := by decide +kernel
theorem dX5_countWaysOn_15 : decode cX5_countWaysOn 15 = .ok (.iinc 1 1, 3) := by decide +kernel
theorem dX5_countWaysOn_18 : decode cX5_countWaysOn 18 = .ok (.goto (-16), 3) := by decide +kernel
theorem dX5_countWaysOn_21 : decode cX5_countWaysOn 21 = .ok (.iconst 0, 1) := by decide +kernel
theorem dX5_countWaysOn_22 : decode cX5_countWaysOn 22 = .ok (.istore_n 1, 1) := by decide +kernel
theorem dX5_countWaysOn_23 : decode cX5_countWaysOn 23 = .ok (.iload_n 1, 1) := by decide +kernel
theorem dX5_countWaysOn_24 : decode cX5_countWaysOn 24 = .ok (.aload_n 0, 1) := by decide +kernel
theorem dX5_countWaysOn_25 : decode cX5_countWaysOn 25 = .ok (.getfield 10, 3) := by decide +kernel
theorem dX5_countWaysOn_28 : decode cX5_countWaysOn 28 = .ok (.getfield 87, 3) := by decide +kernel
theorem dX5_countWaysOn_31 : decode cX5_countWaysOn 31 = .ok (.if_icmp .ge 46, 3) := by decide +kernel
theorem dX5_countWaysOn_34 : decode cX5_countWaysOn 34 = .ok (.iconst 0, 1) := by decide +kernel
theorem dX5_countWaysOn_35 : decode cX5_countWaysOn 35 = .ok (.istore_n 2, 1) := by decide +kernel
theorem dX5_countWaysOn_36 : decode cX5_countWaysOn 36 = .ok (.iload_n 2, 1) := by decide +kernel
theorem dX5_countWaysOn_37 : decode cX5_countWaysOn 37 = .ok (.bipush 8, 2) := by decide +kernel
theorem dX5_countWaysOn_39 : decode cX5_countWaysOn 39 = .ok (.if_icmp .ge 32, 3) := by decide +kernel
theorem dX5_countWaysOn_42 : decode cX5_countWaysOn 42 = .ok (.aload_n 0, 1) := by decide +kernel
theorem dX5_countWaysOn_43 : decode cX5_countWaysOn 43 = .ok (.getfield 47, 3) := by decide +kernel
theorem dX5_countWaysOn_46 : decode cX5_countWaysOn 46 = .ok (.aload_n 0, 1) := by decide +kernel
theorem dX5_countWaysOn_47 : decode cX5_countWaysOn 47 = .ok (.getfield 10, 3) := by decide +kernel
theorem dX5_countWaysOn_50 : decode cX5_countWaysOn 50 = .ok (.iload_n 1, 1) := by decide +kernel
theorem dX5_countWaysOn_51 : decode cX5_countWaysOn 51 = .ok (.iload_n 2, 1) := by decide +kernel
theorem dX5_countWaysOn_52 : decode cX5_countWaysOn 52 = .ok (.invokevirtual 118, 3) := by decide +kernel
theorem dX5_countWaysOn_55 : decode cX5_countWaysOn 55 = .ok (.dup2, 1) := by decide +kernel
theorem dX5_countWaysOn_56 : decode cX5_countWaysOn 56 = .ok (.iaload, 1) := by decide +kernel
theorem dX5_countWaysOn_57 : decode cX5_countWaysOn 57 = .ok (.aload_n 0, 1) := by decide +kernel
theorem dX5_countWaysOn_58 : decode cX5_countWaysOn 58 = .ok (.getfield 43, 3) := by decide +kernel
theorem dX5_countWaysOn_61 : decode cX5_countWaysOn 61 = .ok (.iload_n 2, 1) := by decide +kernel
theorem dX5_countWaysOn_62 : decode cX5_countWaysOn 62 = .ok (.iaload, 1) := by decide +kernel
theorem dX5_countWaysOn_63 : decode cX5_countWaysOn 63 = .ok (.iadd, 1) := by decide +kernel
theorem dX5_countWaysOn_64 : decode cX5_countWaysOn 64 = .ok (.iastore, 1) := by decide +kernel
theorem dX5_countWaysOn_65 : decode cX5_countWaysOn 65 = .ok (.iinc 2 1, 3) := by decide +kernel
theorem dX5_countWaysOn_68 : decode cX5_countWaysOn 68 = .ok (.goto (-32), 3) := by decide +kernel
theorem dX5_countWaysOn_71 : decode cX5_countWaysOn 71 = .ok (.iinc 1 1, 3) := by decide +kernel
theorem dX5_countWaysOn_74 : decode cX5_countWaysOn 74 = .ok (.goto (-51), 3) := by decide +kernel
theorem dX5_countWaysOn_77 : decode cX5_countWaysOn 77 = .ok (.iconst 0, 1) := by decide +kernel
theorem dX5_countWaysOn_78 : decode cX5_countWaysOn 78 = .ok (.istore_n 1, 1) := by decide +kernel
theorem dX5_countWaysOn_79 : decode cX5_countWaysOn 79 = .ok (.iload_n 1, 1) := by decide +kernel
theorem dX5_countWaysOn_80 : decode cX5_countWaysOn 80 = .ok (.bipush 8, 2) := by decide +kernel
theorem dX5_countWaysOn_82 : decode cX5_countWaysOn 82 = .ok (.if_icmp .ge 21, 3) := by decide +kernel
theorem dX5_countWaysOn_85 : decode cX5_countWaysOn 85 = .ok (.aload_n 0, 1) := by decide +kernel
theorem dX5_countWaysOn_86 : decode cX5_countWaysOn 86 = .ok (.getfield 43, 3) := by decide +kernel
theorem dX5_countWaysOn_89 : decode cX5_countWaysOn 89 = .ok (.iload_n 1, 1) := by decide +kernel
theorem dX5_countWaysOn_90 : decode cX5_countWaysOn 90 = .ok (.aload_n 0, 1) := by decide +kernel
theorem dX5_countWaysOn_91 : decode cX5_countWaysOn 91 = .ok (.getfield 47, 3) := by decide +kernel
theorem dX5_countWaysOn_94 : decode cX5_countWaysOn 94 = .ok (.iload_n 1, 1) := by decide +kernel
theorem dX5_countWaysOn_95 : decode cX5_countWaysOn 95 = .ok (.iaload, 1) := by decide +kernel
theorem dX5_countWaysOn_96 : decode cX5_countWaysOn 96 = .ok (.iastore, 1) := by decide +kernel
theorem dX5_countWaysOn_97 : decode cX5_countWaysOn 97 = .ok (.iinc 1 1, 3) := by decide +kernel
theorem dX5_countWaysOn_100 : decode cX5_countWaysOn 100 = .ok (.goto (-21), 3) := by decide +kernel
theorem dX5_countWaysOn_103 : decode cX5_countWaysOn 103 = .ok (.return_, 1) := by decide +kernel
theorem dX5_isSeenAsTold_0 : decode cX5_isSeenAsTold 0 = .ok (.iconst 0, 1) := by decide +kernel
theorem dX5_isSeenAsTold_1 : decode cX5_isSeenAsTold 1 = .ok (.istore 6, 2) := by decide +kernel
theorem dX5_isSeenAsTold_3 : decode cX5_isSeenAsTold 3 = .ok (.iload 6, 2) := by decide +kernel
theorem dX5_isSeenAsTold_5 : decode cX5_isSeenAsTold 5 = .ok (.iload 5, 2) := by decide +kernel
theorem dX5_isSeenAsTold_7 : decode cX5_isSeenAsTold 7 = .ok (.if_icmp .ge 37, 3) := by decide +kernel
theorem dX5_isSeenAsTold_10 : decode cX5_isSeenAsTold 10 = .ok (.aload_n 0, 1) := by decide +kernel
theorem dX5_isSeenAsTold_11 : decode cX5_isSeenAsTold 11 = .ok (.getfield 32, 3) := by decide +kernel
theorem dX5_isSeenAsTold_14 : decode cX5_isSeenAsTold 14 = .ok (.iload_n 3, 1) := by decide +kernel
theorem dX5_isSeenAsTold_15 : decode cX5_isSeenAsTold 15 = .ok (.iload 4, 2) := by decide +kernel
theorem dX5_isSeenAsTold_17 : decode cX5_isSeenAsTold 17 = .ok (.iload 6, 2) := by decide +kernel
theorem dX5_isSeenAsTold_19 : decode cX5_isSeenAsTold 19 = .ok (.iadd, 1) := by decide +kernel
theorem dX5_isSeenAsTold_20 : decode cX5_isSeenAsTold 20 = .ok (.invokevirtual 287, 3) := by decide +kernel
theorem dX5_isSeenAsTold_23 : decode cX5_isSeenAsTold 23 = .ok (.iload_n 1, 1) := by decide +kernel
theorem dX5_isSeenAsTold_24 : decode cX5_isSeenAsTold 24 = .ok (.iload_n 2, 1) := by decide +kernel
theorem dX5_isSeenAsTold_25 : decode cX5_isSeenAsTold 25 = .ok (.iload 6, 2) := by decide +kernel
theorem dX5_isSeenAsTold_27 : decode cX5_isSeenAsTold 27 = .ok (.iadd, 1) := by decide +kernel
theorem dX5_isSeenAsTold_28 : decode cX5_isSeenAsTold 28 = .ok (.invokestatic 127, 3) := by decide +kernel
theorem dX5_isSeenAsTold_31 : decode cX5_isSeenAsTold 31 = .ok (.i2l, 1) := by decide +kernel
theorem dX5_isSeenAsTold_32 : decode cX5_isSeenAsTold 32 = .ok (.lcmp, 1) := by decide +kernel
theorem dX5_isSeenAsTold_33 : decode cX5_isSeenAsTold 33 = .ok (.ifCond .eq 5, 3) := by decide +kernel
theorem dX5_isSeenAsTold_36 : decode cX5_isSeenAsTold 36 = .ok (.iconst 0, 1) := by decide +kernel
theorem dX5_isSeenAsTold_37 : decode cX5_isSeenAsTold 37 = .ok (.ireturn, 1) := by decide +kernel
theorem dX5_isSeenAsTold_38 : decode cX5_isSeenAsTold 38 = .ok (.iinc 6 1, 3) := by decide +kernel
theorem dX5_isSeenAsTold_41 : decode cX5_isSeenAsTold 41 = .ok (.goto (-38), 3) := by decide +kernel
theorem dX5_isSeenAsTold_44 : decode cX5_isSeenAsTold 44 = .ok (.iconst 1, 1) := by decide +kernel
theorem dX5_isSeenAsTold_45 : decode cX5_isSeenAsTold 45 = .ok (.ireturn, 1) := by decide +kernel
theorem dX5_goesAsTold_0 : decode cX5_goesAsTold 0 = .ok (.aload_n 1, 1) := by decide +kernel
theorem dX5_goesAsTold_1 : decode cX5_goesAsTold 1 = .ok (.getfield 124, 3) := by decide +kernel
theorem dX5_goesAsTold_4 : decode cX5_goesAsTold 4 = .ok (.iload_n 2, 1) := by decide +kernel
theorem dX5_goesAsTold_5 : decode cX5_goesAsTold 5 = .ok (.iaload, 1) := by decide +kernel
theorem dX5_goesAsTold_6 : decode cX5_goesAsTold 6 = .ok (.istore 6, 2) := by decide +kernel
theorem dX5_goesAsTold_8 : decode cX5_goesAsTold 8 = .ok (.iconst 0, 1) := by decide +kernel
theorem dX5_goesAsTold_9 : decode cX5_goesAsTold 9 = .ok (.istore 7, 2) := by decide +kernel
theorem dX5_goesAsTold_11 : decode cX5_goesAsTold 11 = .ok (.iload 7, 2) := by decide +kernel
theorem dX5_goesAsTold_13 : decode cX5_goesAsTold 13 = .ok (.iload 5, 2) := by decide +kernel
theorem dX5_goesAsTold_15 : decode cX5_goesAsTold 15 = .ok (.if_icmp .ge 46, 3) := by decide +kernel
theorem dX5_goesAsTold_18 : decode cX5_goesAsTold 18 = .ok (.aload_n 1, 1) := by decide +kernel
theorem dX5_goesAsTold_19 : decode cX5_goesAsTold 19 = .ok (.iload 6, 2) := by decide +kernel
theorem dX5_goesAsTold_21 : decode cX5_goesAsTold 21 = .ok (.aload_n 1, 1) := by decide +kernel
theorem dX5_goesAsTold_22 : decode cX5_goesAsTold 22 = .ok (.getfield 154, 3) := by decide +kernel
theorem dX5_goesAsTold_25 : decode cX5_goesAsTold 25 = .ok (.iload 7, 2) := by decide +kernel
theorem dX5_goesAsTold_27 : decode cX5_goesAsTold 27 = .ok (.iadd, 1) := by decide +kernel
theorem dX5_goesAsTold_28 : decode cX5_goesAsTold 28 = .ok (.invokevirtual 203, 3) := by decide +kernel
theorem dX5_goesAsTold_31 : decode cX5_goesAsTold 31 = .ok (.istore 6, 2) := by decide +kernel
theorem dX5_goesAsTold_33 : decode cX5_goesAsTold 33 = .ok (.aload_n 0, 1) := by decide +kernel
theorem dX5_goesAsTold_34 : decode cX5_goesAsTold 34 = .ok (.getfield 32, 3) := by decide +kernel
theorem dX5_goesAsTold_37 : decode cX5_goesAsTold 37 = .ok (.iload_n 3, 1) := by decide +kernel
theorem dX5_goesAsTold_38 : decode cX5_goesAsTold 38 = .ok (.iload 4, 2) := by decide +kernel
theorem dX5_goesAsTold_40 : decode cX5_goesAsTold 40 = .ok (.iload 7, 2) := by decide +kernel
theorem dX5_goesAsTold_42 : decode cX5_goesAsTold 42 = .ok (.iadd, 1) := by decide +kernel
theorem dX5_goesAsTold_43 : decode cX5_goesAsTold 43 = .ok (.invokevirtual 287, 3) := by decide +kernel
theorem dX5_goesAsTold_46 : decode cX5_goesAsTold 46 = .ok (.iload 6, 2) := by decide +kernel
theorem dX5_goesAsTold_48 : decode cX5_goesAsTold 48 = .ok (.i2l, 1) := by decide +kernel
theorem dX5_goesAsTold_49 : decode cX5_goesAsTold 49 = .ok (.lcmp, 1) := by decide +kernel
theorem dX5_goesAsTold_50 : decode cX5_goesAsTold 50 = .ok (.ifCond .eq 5, 3) := by decide +kernel
theorem dX5_goesAsTold_53 : decode cX5_goesAsTold 53 = .ok (.iconst 0, 1) := by decide +kernel
theorem dX5_goesAsTold_54 : decode cX5_goesAsTold 54 = .ok (.ireturn, 1) := by decide +kernel
theorem dX5_goesAsTold_55 : decode cX5_goesAsTold 55 = .ok (.iinc 7 1, 3) := by decide +kernel
theorem dX5_goesAsTold_58 : decode cX5_goesAsTold 58 = .ok (.goto (-47), 3) := by decide +kernel
theorem dX5_goesAsTold_61 : decode cX5_goesAsTold 61 = .ok (.iconst 1, 1) := by decide +kernel
theorem dX5_goesAsTold_62 : decode cX5_goesAsTold 62 = .ok (.ireturn, 1) := by decide +kernel
theorem dX5_within_0 : decode cX5_within 0 = .ok (.iload_n 0, 1) := by decide +kernel
theorem dX5_within_1 : decode cX5_within 1 = .ok (.iload_n 1, 1) := by decide +kernel
theorem dX5_within_2 : decode cX5_within 2 = .ok (.if_icmp .lt 12, 3) := by decide +kernel
theorem dX5_within_5 : decode cX5_within 5 = .ok (.iload_n 0, 1) := by decide +kernel
theorem dX5_within_6 : decode cX5_within 6 = .ok (.iload_n 2, 1) := by decide +kernel
theorem dX5_within_7 : decode cX5_within 7 = .ok (.if_icmp .gt 7, 3) := by decide +kernel
theorem dX5_within_10 : decode cX5_within 10 = .ok (.iconst 1, 1) := by decide +kernel
theorem dX5_within_11 : decode cX5_within 11 = .ok (.goto 4, 3) := by decide +kernel
theorem dX5_within_14 : decode cX5_within 14 = .ok (.iconst 0, 1) := by decide +kernel
theorem dX5_within_15 : decode cX5_within 15 = .ok (.ireturn, 1) := by decide +kernel
theorem dX5_isPlace_0 : decode cX5_isPlace 0 = .ok (.iload_n 0, 1) := by decide +kernel
theorem dX5_isPlace_1 : decode cX5_isPlace 1 = .ok (.iconst 0, 1) := by decide +kernel
theorem dX5_isPlace_2 : decode cX5_isPlace 2 = .ok (.bipush 7, 2) := by decide +kernel
theorem dX5_isPlace_4 : decode cX5_isPlace 4 = .ok (.invokestatic 83, 3) := by decide +kernel
theorem dX5_isPlace_7 : decode cX5_isPlace 7 = .ok (.ireturn, 1) := by decide +kernel
theorem dX5_isSheet_0 : decode cX5_isSheet 0 = .ok (.iload_n 0, 1) := by decide +kernel
theorem dX5_isSheet_1 : decode cX5_isSheet 1 = .ok (.iconst 0, 1) := by decide +kernel
theorem dX5_isSheet_2 : decode cX5_isSheet 2 = .ok (.iconst 3, 1) := by decide +kernel
theorem dX5_isSheet_3 : decode cX5_isSheet 3 = .ok (.invokestatic 83, 3) := by decide +kernel
theorem dX5_isSheet_6 : decode cX5_isSheet 6 = .ok (.ireturn, 1) := by decide +kernel
theorem dX5_isLane_0 : decode cX5_isLane 0 = .ok (.iload_n 0, 1) := by decide +kernel
theorem dX5_isLane_1 : decode cX5_isLane 1 = .ok (.iconst 0, 1) := by decide +kernel
theorem dX5_isLane_2 : decode cX5_isLane 2 = .ok (.iconst 3, 1) := by decide +kernel
theorem dX5_isLane_3 : decode cX5_isLane 3 = .ok (.invokestatic 83, 3) := by decide +kernel
theorem dX5_isLane_6 : decode cX5_isLane 6 = .ok (.ireturn, 1) := by decide +kernel
theorem dX5_bitOf_0 : decode cX5_bitOf 0 = .ok (.iload_n 0, 1) := by decide +kernel
theorem dX5_bitOf_1 : decode cX5_bitOf 1 = .ok (.invokestatic 54, 3) := by decide +kernel
theorem dX5_bitOf_4 : decode cX5_bitOf 4 = .ok (.ifCond .eq 9, 3) := by decide +kernel
theorem dX5_bitOf_7 : decode cX5_bitOf 7 = .ok (.iconst 1, 1) := by decide +kernel
theorem dX5_bitOf_8 : decode cX5_bitOf 8 = .ok (.iload_n 0, 1) := by decide +kernel
theorem dX5_bitOf_9 : decode cX5_bitOf 9 = .ok (.ishl, 1) := by decide +kernel
theorem dX5_bitOf_10 : decode cX5_bitOf 10 = .ok (.goto 4, 3) := by decide +kernel
theorem dX5_bitOf_13 : decode cX5_bitOf 13 = .ok (.iconst 0, 1) := by decide +kernel
theorem dX5_bitOf_14 : decode cX5_bitOf 14 = .ok (.ireturn, 1) := by decide +kernel
theorem dX5_leftBy8_0 : decode cX5_leftBy8 0 = .ok (.iload_n 0, 1) := by decide +kernel
theorem dX5_leftBy8_1 : decode cX5_leftBy8 1 = .ok (.bipush 7, 2) := by decide +kernel
theorem dX5_leftBy8_3 : decode cX5_leftBy8 3 = .ok (.iand, 1) := by decide +kernel
theorem dX5_leftBy8_4 : decode cX5_leftBy8 4 = .ok (.ireturn, 1) := by decide +kernel
theorem dX5_holds_0 : decode cX5_holds 0 = .ok (.iload_n 0, 1) := by decide +kernel
theorem dX5_holds_1 : decode cX5_holds 1 = .ok (.iload_n 1, 1) := by decide +kernel
theorem dX5_holds_2 : decode cX5_holds 2 = .ok (.invokestatic 291, 3) := by decide +kernel
theorem dX5_holds_5 : decode cX5_holds 5 = .ok (.ishr, 1) := by decide +kernel
theorem dX5_holds_6 : decode cX5_holds 6 = .ok (.iconst 1, 1) := by decide +kernel
theorem dX5_holds_7 : decode cX5_holds 7 = .ok (.iand, 1) := by decide +kernel
theorem dX5_holds_8 : decode cX5_holds 8 = .ok (.ifCond .eq 7, 3) := by decide +kernel
theorem dX5_holds_11 : decode cX5_holds 11 = .ok (.iconst 1, 1) := by decide +kernel
theorem dX5_holds_12 : decode cX5_holds 12 = .ok (.goto 4, 3) := by decide +kernel
theorem dX5_holds_15 : decode cX5_holds 15 = .ok (.iconst 0, 1) := by decide +kernel
theorem dX5_holds_16 : decode cX5_holds 16 = .ok (.ireturn, 1) := by decide +kernel
theorem dX5_greatestCommon_0 : decode cX5_greatestCommon 0 = .ok (.iload_n 0, 1) := by decide +kernel
theorem dX5_greatestCommon_1 : decode cX5_greatestCommon 1 = .ok (.istore_n 2, 1) := by decide +kernel
theorem dX5_greatestCommon_2 : decode cX5_greatestCommon 2 = .ok (.iload_n 1, 1) := by decide +kernel
theorem dX5_greatestCommon_3 : decode cX5_greatestCommon 3 = .ok (.istore_n 3, 1) := by decide +kernel
theorem dX5_greatestCommon_4 : decode cX5_greatestCommon 4 = .ok (.iconst 0, 1) := by decide +kernel
theorem dX5_greatestCommon_5 : decode cX5_greatestCommon 5 = .ok (.istore 4, 2) := by decide +kernel
theorem dX5_greatestCommon_7 : decode cX5_greatestCommon 7 = .ok (.iload 4, 2) := by decide +kernel
theorem dX5_greatestCommon_9 : decode cX5_greatestCommon 9 = .ok (.bipush 64, 2) := by decide +kernel
theorem dX5_greatestCommon_11 : decode cX5_greatestCommon 11 = .ok (.if_icmp .ge 23, 3) := by decide +kernel
theorem dX5_greatestCommon_14 : decode cX5_greatestCommon 14 = .ok (.iload_n 3, 1) := by decide +kernel
theorem dX5_greatestCommon_15 : decode cX5_greatestCommon 15 = .ok (.ifCond .eq 19, 3) := by decide +kernel
theorem dX5_greatestCommon_18 : decode cX5_greatestCommon 18 = .ok (.iload_n 2, 1) := by decide +kernel
theorem dX5_greatestCommon_19 : decode cX5_greatestCommon 19 = .ok (.iload_n 3, 1) := by decide +kernel
theorem dX5_greatestCommon_20 : decode cX5_greatestCommon 20 = .ok (.irem, 1) := by decide +kernel
theorem dX5_greatestCommon_21 : decode cX5_greatestCommon 21 = .ok (.istore 5, 2) := by decide +kernel
theorem dX5_greatestCommon_23 : decode cX5_greatestCommon 23 = .ok (.iload_n 3, 1) := by decide +kernel
theorem dX5_greatestCommon_24 : decode cX5_greatestCommon 24 = .ok (.istore_n 2, 1) := by decide +kernel
theorem dX5_greatestCommon_25 : decode cX5_greatestCommon 25 = .ok (.iload 5, 2) := by decide +kernel
theorem dX5_greatestCommon_27 : decode cX5_greatestCommon 27 = .ok (.istore_n 3, 1) := by decide +kernel
theorem dX5_greatestCommon_28 : decode cX5_greatestCommon 28 = .ok (.iinc 4 1, 3) := by decide +kernel
theorem dX5_greatestCommon_31 : decode cX5_greatestCommon 31 = .ok (.goto (-24), 3) := by decide +kernel
theorem dX5_greatestCommon_34 : decode cX5_greatestCommon 34 = .ok (.iload_n 2, 1) := by decide +kernel
theorem dX5_greatestCommon_35 : decode cX5_greatestCommon 35 = .ok (.ireturn, 1) := by decide +kernel
theorem dX5_seenFrom_0 : decode cX5_seenFrom 0 = .ok (.iload_n 1, 1) := by decide +kernel
theorem dX5_seenFrom_1 : decode cX5_seenFrom 1 = .ok (.invokestatic 291, 3) := by decide +kernel
theorem dX5_seenFrom_4 : decode cX5_seenFrom 4 = .ok (.istore_n 2, 1) := by decide +kernel
theorem dX5_seenFrom_5 : decode cX5_seenFrom 5 = .ok (.iload_n 0, 1) := by decide +kernel
theorem dX5_seenFrom_6 : decode cX5_seenFrom 6 = .ok (.iload_n 2, 1) := by decide +kernel
theorem dX5_seenFrom_7 : decode cX5_seenFrom 7 = .ok (.ishr, 1) := by decide +kernel
theorem dX5_seenFrom_8 : decode cX5_seenFrom 8 = .ok (.iload_n 0, 1) := by decide +kernel
theorem dX5_seenFrom_9 : decode cX5_seenFrom 9 = .ok (.bipush 8, 2) := by decide +kernel
theorem dX5_seenFrom_11 : decode cX5_seenFrom 11 = .ok (.iload_n 2, 1) := by decide +kernel
theorem dX5_seenFrom_12 : decode cX5_seenFrom 12 = .ok (.isub, 1) := by decide +kernel
theorem dX5_seenFrom_13 : decode cX5_seenFrom 13 = .ok (.ishl, 1) := by decide +kernel
theorem dX5_seenFrom_14 : decode cX5_seenFrom 14 = .ok (.ior, 1) := by decide +kernel
theorem dX5_seenFrom_15 : decode cX5_seenFrom 15 = .ok (.istore_n 3, 1) := by decide +kernel
theorem dX5_seenFrom_16 : decode cX5_seenFrom 16 = .ok (.iload_n 3, 1) := by decide +kernel
theorem dX5_seenFrom_17 : decode cX5_seenFrom 17 = .ok (.bipush 14, 2) := by decide +kernel
theorem dX5_seenFrom_19 : decode cX5_seenFrom 19 = .ok (.iand, 1) := by decide +kernel
theorem dX5_seenFrom_20 : decode cX5_seenFrom 20 = .ok (.istore 4, 2) := by decide +kernel
theorem dX5_seenFrom_22 : decode cX5_seenFrom 22 = .ok (.iload_n 3, 1) := by decide +kernel
theorem dX5_seenFrom_23 : decode cX5_seenFrom 23 = .ok (.sipush 224, 3) := by decide +kernel
theorem dX5_seenFrom_26 : decode cX5_seenFrom 26 = .ok (.iand, 1) := by decide +kernel
theorem dX5_seenFrom_27 : decode cX5_seenFrom 27 = .ok (.istore 5, 2) := by decide +kernel
theorem dX5_seenFrom_29 : decode cX5_seenFrom 29 = .ok (.iload 4, 2) := by decide +kernel
theorem dX5_seenFrom_31 : decode cX5_seenFrom 31 = .ok (.iconst 1, 1) := by decide +kernel
theorem dX5_seenFrom_32 : decode cX5_seenFrom 32 = .ok (.ishl, 1) := by decide +kernel
theorem dX5_seenFrom_33 : decode cX5_seenFrom 33 = .ok (.iload 5, 2) := by decide +kernel
theorem dX5_seenFrom_35 : decode cX5_seenFrom 35 = .ok (.iconst 1, 1) := by decide +kernel
theorem dX5_seenFrom_36 : decode cX5_seenFrom 36 = .ok (.ishr, 1) := by decide +kernel
theorem dX5_seenFrom_37 : decode cX5_seenFrom 37 = .ok (.ior, 1) := by decide +kernel
theorem dX5_seenFrom_38 : decode cX5_seenFrom 38 = .ok (.istore 6, 2) := by decide +kernel
theorem dX5_seenFrom_40 : decode cX5_seenFrom 40 = .ok (.iload_n 3, 1) := by decide +kernel
theorem dX5_seenFrom_41 : decode cX5_seenFrom 41 = .ok (.iconst 1, 1) := by decide +kernel
theorem dX5_seenFrom_42 : decode cX5_seenFrom 42 = .ok (.iand, 1) := by decide +kernel
theorem dX5_seenFrom_43 : decode cX5_seenFrom 43 = .ok (.iload 4, 2) := by decide +kernel
theorem dX5_seenFrom_45 : decode cX5_seenFrom 45 = .ok (.ior, 1) := by decide +kernel
theorem dX5_seenFrom_46 : decode cX5_seenFrom 46 = .ok (.iload 5, 2) := by decide +kernel
theorem dX5_seenFrom_48 : decode cX5_seenFrom 48 = .ok (.ior, 1) := by decide +kernel
theorem dX5_seenFrom_49 : decode cX5_seenFrom 49 = .ok (.iload 6, 2) := by decide +kernel
theorem dX5_seenFrom_51 : decode cX5_seenFrom 51 = .ok (.iconst (-1), 1) := by decide +kernel
theorem dX5_seenFrom_52 : decode cX5_seenFrom 52 = .ok (.ixor, 1) := by decide +kernel
theorem dX5_seenFrom_53 : decode cX5_seenFrom 53 = .ok (.iand, 1) := by decide +kernel
theorem dX5_seenFrom_54 : decode cX5_seenFrom 54 = .ok (.invokestatic 179, 3) := by decide +kernel
theorem dX5_seenFrom_57 : decode cX5_seenFrom 57 = .ok (.ireturn, 1) := by decide +kernel
theorem dX5_span_0 : decode cX5_span 0 = .ok (.iconst 1, 1) := by decide +kernel
theorem dX5_span_1 : decode cX5_span 1 = .ok (.istore_n 1, 1) := by decide +kernel
theorem dX5_span_2 : decode cX5_span 2 = .ok (.iload_n 1, 1) := by decide +kernel
theorem dX5_span_3 : decode cX5_span 3 = .ok (.iconst 4, 1) := by decide +kernel
theorem dX5_span_4 : decode cX5_span 4 = .ok (.if_icmp .gt 43, 3) := by decide +kernel
theorem dX5_span_7 : decode cX5_span 7 = .ok (.iconst 0, 1) := by decide +kernel
theorem dX5_span_8 : decode cX5_span 8 = .ok (.istore_n 2, 1) := by decide +kernel
theorem dX5_span_9 : decode cX5_span 9 = .ok (.iload_n 2, 1) := by decide +kernel
theorem dX5_span_10 : decode cX5_span 10 = .ok (.bipush 8, 2) := by decide +kernel
theorem dX5_span_12 : decode cX5_span 12 = .ok (.if_icmp .ge 29, 3) := by decide +kernel
theorem dX5_span_15 : decode cX5_span 15 = .ok (.iload_n 0, 1) := by decide +kernel
theorem dX5_span_16 : decode cX5_span 16 = .ok (.iload_n 2, 1) := by decide +kernel
theorem dX5_span_17 : decode cX5_span 17 = .ok (.invokestatic 66, 3) := by decide +kernel
theorem dX5_span_20 : decode cX5_span 20 = .ok (.ifCond .eq 15, 3) := by decide +kernel
theorem dX5_span_23 : decode cX5_span 23 = .ok (.iload_n 0, 1) := by decide +kernel
theorem dX5_span_24 : decode cX5_span 24 = .ok (.iload_n 2, 1) := by decide +kernel
theorem dX5_span_25 : decode cX5_span 25 = .ok (.iload_n 1, 1) := by decide +kernel
theorem dX5_span_26 : decode cX5_span 26 = .ok (.iadd, 1) := by decide +kernel
theorem dX5_span_27 : decode cX5_span 27 = .ok (.invokestatic 66, 3) := by decide +kernel
theorem dX5_span_30 : decode cX5_span 30 = .ok (.ifCond .eq 5, 3) := by decide +kernel
theorem dX5_span_33 : decode cX5_span 33 = .ok (.iload_n 1, 1) := by decide +kernel
theorem dX5_span_34 : decode cX5_span 34 = .ok (.ireturn, 1) := by decide +kernel
theorem dX5_span_35 : decode cX5_span 35 = .ok (.iinc 2 1, 3) := by decide +kernel
theorem dX5_span_38 : decode cX5_span 38 = .ok (.goto (-29), 3) := by decide +kernel
theorem dX5_span_41 : decode cX5_span 41 = .ok (.iinc 1 1, 3) := by decide +kernel
theorem dX5_span_44 : decode cX5_span 44 = .ok (.goto (-42), 3) := by decide +kernel
theorem dX5_span_47 : decode cX5_span 47 = .ok (.iconst 0, 1) := by decide +kernel
theorem dX5_span_48 : decode cX5_span 48 = .ok (.ireturn, 1) := by decide +kernel
theorem dX5_lead_0 : decode cX5_lead 0 = .ok (.iload_n 2, 1) := by decide +kernel
theorem dX5_lead_1 : decode cX5_lead 1 = .ok (.iload_n 1, 1) := by decide +kernel
theorem dX5_lead_2 : decode cX5_lead 2 = .ok (.iadd, 1) := by decide +kernel
theorem dX5_lead_3 : decode cX5_lead 3 = .ok (.invokestatic 291, 3) := by decide +kernel
theorem dX5_lead_6 : decode cX5_lead 6 = .ok (.istore_n 3, 1) := by decide +kernel
theorem dX5_lead_7 : decode cX5_lead 7 = .ok (.iload_n 3, 1) := by decide +kernel
theorem dX5_lead_8 : decode cX5_lead 8 = .ok (.iload_n 1, 1) := by decide +kernel
theorem dX5_lead_9 : decode cX5_lead 9 = .ok (.iadd, 1) := by decide +kernel
theorem dX5_lead_10 : decode cX5_lead 10 = .ok (.invokestatic 291, 3) := by decide +kernel
theorem dX5_lead_13 : decode cX5_lead 13 = .ok (.istore 4, 2) := by decide +kernel
theorem dX5_lead_15 : decode cX5_lead 15 = .ok (.bipush 8, 2) := by decide +kernel
theorem dX5_lead_17 : decode cX5_lead 17 = .ok (.iload_n 2, 1) := by decide +kernel
theorem dX5_lead_18 : decode cX5_lead 18 = .ok (.isub, 1) := by decide +kernel
theorem dX5_lead_19 : decode cX5_lead 19 = .ok (.iload_n 1, 1) := by decide +kernel
theorem dX5_lead_20 : decode cX5_lead 20 = .ok (.iadd, 1) := by decide +kernel
theorem dX5_lead_21 : decode cX5_lead 21 = .ok (.invokestatic 291, 3) := by decide +kernel
theorem dX5_lead_24 : decode cX5_lead 24 = .ok (.istore 5, 2) := by decide +kernel
theorem dX5_lead_26 : decode cX5_lead 26 = .ok (.iload_n 0, 1) := by decide +kernel
theorem dX5_lead_27 : decode cX5_lead 27 = .ok (.tableswitch 50 0 3 #[29, 31, 34, 37], 29) := by decide +kernel
theorem dX5_lead_56 : decode cX5_lead 56 = .ok (.iload_n 3, 1) := by decide +kernel
theorem dX5_lead_57 : decode cX5_lead 57 = .ok (.ireturn, 1) := by decide +kernel
theorem dX5_lead_58 : decode cX5_lead 58 = .ok (.iload 4, 2) := by decide +kernel
theorem dX5_lead_60 : decode cX5_lead 60 = .ok (.ireturn, 1) := by decide +kernel
theorem dX5_lead_61 : decode cX5_lead 61 = .ok (.iload 5, 2) := by decide +kernel
theorem dX5_lead_63 : decode cX5_lead 63 = .ok (.ireturn, 1) := by decide +kernel
theorem dX5_lead_64 : decode cX5_lead 64 = .ok (.iload_n 2, 1) := by decide +kernel
theorem dX5_lead_65 : decode cX5_lead 65 = .ok (.iconst 2, 1) := by decide +kernel
theorem dX5_lead_66 : decode cX5_lead 66 = .ok (.irem, 1) := by decide +kernel
theorem dX5_lead_67 : decode cX5_lead 67 = .ok (.ifCond .ne 8, 3) := by decide +kernel
theorem dX5_lead_70 : decode cX5_lead 70 = .ok (.iload 4, 2) := by decide +kernel
theorem dX5_lead_72 : decode cX5_lead 72 = .ok (.goto 4, 3) := by decide +kernel
theorem dX5_lead_75 : decode cX5_lead 75 = .ok (.iload_n 2, 1) := by decide +kernel
theorem dX5_lead_76 : decode cX5_lead 76 = .ok (.ireturn, 1) := by decide +kernel
theorem dX5_lead_77 : decode cX5_lead 77 = .ok (.iload 5, 2) := by decide +kernel
theorem dX5_lead_79 : decode cX5_lead 79 = .ok (.iconst 4, 1) := by decide +kernel
theorem dX5_lead_80 : decode cX5_lead 80 = .ok (.irem, 1) := by decide +kernel
theorem dX5_lead_81 : decode cX5_lead 81 = .ok (.ifCond .ne 10, 3) := by decide +kernel
theorem dX5_lead_84 : decode cX5_lead 84 = .ok (.iconst 4, 1) := by decide +kernel
theorem dX5_lead_85 : decode cX5_lead 85 = .ok (.iload 5, 2) := by decide +kernel
theorem dX5_lead_87 : decode cX5_lead 87 = .ok (.isub, 1) := by decide +kernel
theorem dX5_lead_88 : decode cX5_lead 88 = .ok (.goto 5, 3) := by decide +kernel
theorem dX5_lead_91 : decode cX5_lead 91 = .ok (.iload 5, 2) := by decide +kernel
theorem dX5_lead_93 : decode cX5_lead 93 = .ok (.ireturn, 1) := by decide +kernel
end
section
theorem dX6_init_0 : decode cX6_init 0 = .ok (.aload_n 0, 1) := by decide +kernel
theorem dX6_init_1 : decode cX6_init 1 = .ok (.invokespecial 1, 3) := by decide +kernel
theorem dX6_init_4 : decode cX6_init 4 = .ok (.aload_n 0, 1) := by decide +kernel
theorem dX6_init_5 : decode cX6_init 5 = .ok (.sipush 279, 3) := by decide +kernel
theorem dX6_init_8 : decode cX6_init 8 = .ok (.newarray .int, 2) := by decide +kernel
theorem dX6_init_10 : decode cX6_init 10 = .ok (.putfield 7, 3) := by decide +kernel
theorem dX6_init_13 : decode cX6_init 13 = .ok (.aload_n 0, 1) := by decide +kernel
theorem dX6_init_14 : decode cX6_init 14 = .ok (.bipush 60, 2) := by decide +kernel
theorem dX6_init_16 : decode cX6_init 16 = .ok (.newarray .int, 2) := by decide +kernel
theorem dX6_init_18 : decode cX6_init 18 = .ok (.putfield 13, 3) := by decide +kernel
theorem dX6_init_21 : decode cX6_init 21 = .ok (.aload_n 0, 1) := by decide +kernel
theorem dX6_init_22 : decode cX6_init 22 = .ok (.bipush 96, 2) := by decide +kernel
theorem dX6_init_24 : decode cX6_init 24 = .ok (.newarray .long, 2) := by decide +kernel
theorem dX6_init_26 : decode cX6_init 26 = .ok (.putfield 16, 3) := by decide +kernel
theorem dX6_init_29 : decode cX6_init 29 = .ok (.aload_n 0, 1) := by decide +kernel
theorem dX6_init_30 : decode cX6_init 30 = .ok (.iconst 4, 1) := by decide +kernel
theorem dX6_init_31 : decode cX6_init 31 = .ok (.newarray .int, 2) := by decide +kernel
theorem dX6_init_33 : decode cX6_init 33 = .ok (.putfield 20, 3) := by decide +kernel
theorem dX6_init_36 : decode cX6_init 36 = .ok (.aload_n 0, 1) := by decide +kernel
theorem dX6_init_37 : decode cX6_init 37 = .ok (.iconst 4, 1) := by decide +kernel
theorem dX6_init_38 : decode cX6_init 38 = .ok (.newarray .int, 2) := by decide +kernel
theorem dX6_init_40 : decode cX6_init 40 = .ok (.putfield 23, 3) := by decide +kernel
theorem dX6_init_43 : decode cX6_init 43 = .ok (.aload_n 0, 1) := by decide +kernel
theorem dX6_init_44 : decode cX6_init 44 = .ok (.bipush 8, 2) := by decide +kernel
theorem dX6_init_46 : decode cX6_init 46 = .ok (.newarray .int, 2) := by decide +kernel
theorem dX6_init_48 : decode cX6_init 48 = .ok (.putfield 26, 3) := by decide +kernel
theorem dX6_init_51 : decode cX6_init 51 = .ok (.aload_n 0, 1) := by decide +kernel
theorem dX6_init_52 : decode cX6_init 52 = .ok (.sipush 256, 3) := by decide +kernel
theorem dX6_init_55 : decode cX6_init 55 = .ok (.newarray .int, 2) := by decide +kernel
theorem dX6_init_57 : decode cX6_init 57 = .ok (.putfield 29, 3) := by decide +kernel
theorem dX6_init_60 : decode cX6_init 60 = .ok (.aload_n 0, 1) := by decide +kernel
theorem dX6_init_61 : decode cX6_init 61 = .ok (.sipush 256, 3) := by decide +kernel
theorem dX6_init_64 : decode cX6_init 64 = .ok (.newarray .int, 2) := by decide +kernel
theorem dX6_init_66 : decode cX6_init 66 = .ok (.putfield 32, 3) := by decide +kernel
theorem dX6_init_69 : decode cX6_init 69 = .ok (.aload_n 0, 1) := by decide +kernel
theorem dX6_init_70 : decode cX6_init 70 = .ok (.sipush 256, 3) := by decide +kernel
theorem dX6_init_73 : decode cX6_init 73 = .ok (.newarray .int, 2) := by decide +kernel
theorem dX6_init_75 : decode cX6_init 75 = .ok (.putfield 35, 3) := by decide +kernel
theorem dX6_init_78 : decode cX6_init 78 = .ok (.aload_n 0, 1) := by decide +kernel
theorem dX6_init_79 : decode cX6_init 79 = .ok (.bipush 64, 2) := by decide +kernel
theorem dX6_init_81 : decode cX6_init 81 = .ok (.newarray .int, 2) := by decide +kernel
theorem dX6_init_83 : decode cX6_init 83 = .ok (.putfield 38, 3) := by decide +kernel
theorem dX6_init_86 : decode cX6_init 86 = .ok (.aload_n 0, 1) := by decide +kernel
theorem dX6_init_87 : decode cX6_init 87 = .ok (.bipush 8, 2) := by decide +kernel
theorem dX6_init_89 : decode cX6_init 89 = .ok (.newarray .long, 2) := by decide +kernel
theorem dX6_init_91 : decode cX6_init 91 = .ok (.putfield 41, 3) := by decide +kernel
theorem dX6_init_94 : decode cX6_init 94 = .ok (.aload_n 0, 1) := by decide +kernel
theorem dX6_init_95 : decode cX6_init 95 = .ok (.bipush 8, 2) := by decide +kernel
theorem dX6_init_97 : decode cX6_init 97 = .ok (.newarray .long, 2) := by decide +kernel
theorem dX6_init_99 : decode cX6_init 99 = .ok (.putfield 44, 3) := by decide +kernel
theorem dX6_init_102 : decode cX6_init 102 = .ok (.aload_n 0, 1) := by decide +kernel
theorem dX6_init_103 : decode cX6_init 103 = .ok (.bipush 24, 2) := by decide +kernel
theorem dX6_init_105 : decode cX6_init 105 = .ok (.newarray .long, 2) := by decide +kernel
theorem dX6_init_107 : decode cX6_init 107 = .ok (.putfield 47, 3) := by decide +kernel
theorem dX6_init_110 : decode cX6_init 110 = .ok (.iconst 0, 1) := by decide +kernel
theorem dX6_init_111 : decode cX6_init 111 = .ok (.istore_n 1, 1) := by decide +kernel
theorem dX6_init_112 : decode cX6_init 112 = .ok (.iload_n 1, 1) := by decide +kernel
theorem dX6_init_113 : decode cX6_init 113 = .ok (.iconst 4, 1) := by decide +kernel
theorem dX6_init_114 : decode cX6_init 114 = .ok (.if_icmp .ge 16, 3) := by decide +kernel
theorem dX6_init_117 : decode cX6_init 117 = .ok (.aload_n 0, 1) := by decide +kernel
theorem dX6_init_118 : decode cX6_init 118 = .ok (.getfield 20, 3) := by decide +kernel
theorem dX6_init_121 : decode cX6_init 121 = .ok (.iload_n 1, 1) := by decide +kernel
theorem dX6_init_122 : decode cX6_init 122 = .ok (.iconst (-1), 1) := by decide +kernel
theorem dX6_init_123 : decode cX6_init 123 = .ok (.iastore, 1) := by decide +kernel
theorem dX6_init_124 : decode cX6_init 124 = .ok (.iinc 1 1, 3) := by decide +kernel
theorem dX6_init_127 : decode cX6_init 127 = .ok (.goto (-15), 3) := by decide +kernel
theorem dX6_init_130 : decode cX6_init 130 = .ok (.iconst 0, 1) := by decide +kernel
theorem dX6_init_131 : decode cX6_init 131 = .ok (.istore_n 1, 1) := by decide +kernel
theorem dX6_init_132 : decode cX6_init 132 = .ok (.iload_n 1, 1) := by decide +kernel
theorem dX6_init_133 : decode cX6_init 133 = .ok (.bipush 8, 2) := by decide +kernel
theorem dX6_init_135 : decode cX6_init 135 = .ok (.if_icmp .ge 19, 3) := by decide +kernel
theorem dX6_init_138 : decode cX6_init 138 = .ok (.aload_n 0, 1) := by decide +kernel
theorem dX6_init_139 : decode cX6_init 139 = .ok (.getfield 7, 3) := by decide +kernel
theorem dX6_init_142 : decode cX6_init 142 = .ok (.iconst 5, 1) := by decide +kernel
theorem dX6_init_143 : decode cX6_init 143 = .ok (.iload_n 1, 1) := by decide +kernel
theorem dX6_init_144 : decode cX6_init 144 = .ok (.iadd, 1) := by decide +kernel
theorem dX6_init_145 : decode cX6_init 145 = .ok (.bipush (-4), 2) := by decide +kernel
theorem dX6_init_147 : decode cX6_init 147 = .ok (.iastore, 1) := by decide +kernel
theorem dX6_init_148 : decode cX6_init 148 = .ok (.iinc 1 1, 3) := by decide +kernel
theorem dX6_init_151 : decode cX6_init 151 = .ok (.goto (-19), 3) := by decide +kernel
theorem dX6_init_154 : decode cX6_init 154 = .ok (.aload_n 0, 1) := by decide +kernel
theorem dX6_init_155 : decode cX6_init 155 = .ok (.getfield 7, 3) := by decide +kernel
theorem dX6_init_158 : decode cX6_init 158 = .ok (.iconst 4, 1) := by decide +kernel
theorem dX6_init_159 : decode cX6_init 159 = .ok (.iconst 1, 1) := by decide +kernel
theorem dX6_init_160 : decode cX6_init 160 = .ok (.iastore, 1) := by decide +kernel
theorem dX6_init_161 : decode cX6_init 161 = .ok (.return_, 1) := by decide +kernel
theorem dX6_in_0 : decode cX6_in 0 = .ok (.lload_n 0, 1) := by decide +kernel
theorem dX6_in_1 : decode cX6_in 1 = .ok (.lload_n 2, 1) := by decide +kernel
theorem dX6_in_2 : decode cX6_in 2 = .ok (.lcmp, 1) := by decide +kernel
theorem dX6_in_3 : decode cX6_in 3 = .ok (.ifCond .lt 14, 3) := by decide +kernel
theorem dX6_in_6 : decode cX6_in 6 = .ok (.lload_n 0, 1) := by decide +kernel
theorem dX6_in_7 : decode cX6_in 7 = .ok (.lload 4, 2) := by decide +kernel
theorem dX6_in_9 : decode cX6_in 9 = .ok (.lcmp, 1) := by decide +kernel
theorem dX6_in_10 : decode cX6_in 10 = .ok (.ifCond .gt 7, 3) := by decide +kernel
theorem dX6_in_13 : decode cX6_in 13 = .ok (.iconst 1, 1) := by decide +kernel
theorem dX6_in_14 : decode cX6_in 14 = .ok (.goto 4, 3) := by decide +kernel
theorem dX6_in_17 : decode cX6_in 17 = .ok (.iconst 0, 1) := by decide +kernel
theorem dX6_in_18 : decode cX6_in 18 = .ok (.ireturn, 1) := by decide +kernel
theorem dX6_has_0 : decode cX6_has 0 = .ok (.iload_n 0, 1) := by decide +kernel
theorem dX6_has_1 : decode cX6_has 1 = .ok (.iload_n 1, 1) := by decide +kernel
theorem dX6_has_2 : decode cX6_has 2 = .ok (.ishr, 1) := by decide +kernel
theorem dX6_has_3 : decode cX6_has 3 = .ok (.iconst 1, 1) := by decide +kernel
theorem dX6_has_4 : decode cX6_has 4 = .ok (.iand, 1) := by decide +kernel
theorem dX6_has_5 : decode cX6_has 5 = .ok (.iconst 1, 1) := by decide +kernel
theorem dX6_has_6 : decode cX6_has 6 = .ok (.if_icmp .ne 7, 3) := by decide +kernel
theorem dX6_has_9 : decode cX6_has 9 = .ok (.iconst 1, 1) := by decide +kernel
theorem dX6_has_10 : decode cX6_has 10 = .ok (.goto 4, 3) := by decide +kernel
theorem dX6_has_13 : decode cX6_has 13 = .ok (.iconst 0, 1) := by decide +kernel
theorem dX6_has_14 : decode cX6_has 14 = .ok (.ireturn, 1) := by decide +kernel
theorem dX6_ones_0 : decode cX6_ones 0 = .ok (.iconst 0, 1) := by decide +kernel
theorem dX6_ones_1 : decode cX6_ones 1 = .ok (.istore_n 1, 1) := by decide +kernel
theorem dX6_ones_2 : decode cX6_ones 2 = .ok (.iconst 0, 1) := by decide +kernel
theorem dX6_ones_3 : decode cX6_ones 3 = .ok (.istore_n 2, 1) := by decide +kernel
theorem dX6_ones_4 : decode cX6_ones 4 = .ok (.iload_n 2, 1) := by decide +kernel
theorem dX6_ones_5 : decode cX6_ones 5 = .ok (.bipush 8, 2) := by decide +kernel
theorem dX6_ones_7 : decode cX6_ones 7 = .ok (.if_icmp .ge 17, 3) := by decide +kernel
theorem dX6_ones_10 : decode cX6_ones 10 = .ok (.iload_n 1, 1) := by decide +kernel
theorem dX6_ones_11 : decode cX6_ones 11 = .ok (.iload_n 0, 1) := by decide +kernel
theorem dX6_ones_12 : decode cX6_ones 12 = .ok (.iload_n 2, 1) := by decide +kernel
theorem dX6_ones_13 : decode cX6_ones 13 = .ok (.ishr, 1) := by decide +kernel
theorem dX6_ones_14 : decode cX6_ones 14 = .ok (.iconst 1, 1) := by decide +kernel
theorem dX6_ones_15 : decode cX6_ones 15 = .ok (.iand, 1) := by decide +kernel
theorem dX6_ones_16 : decode cX6_ones 16 = .ok (.iadd, 1) := by decide +kernel
theorem dX6_ones_17 : decode cX6_ones 17 = .ok (.istore_n 1, 1) := by decide +kernel
theorem dX6_ones_18 : decode cX6_ones 18 = .ok (.iinc 2 1, 3) := by decide +kernel
theorem dX6_ones_21 : decode cX6_ones 21 = .ok (.goto (-17), 3) := by decide +kernel
theorem dX6_ones_24 : decode cX6_ones 24 = .ok (.iload_n 1, 1) := by decide +kernel
theorem dX6_ones_25 : decode cX6_ones 25 = .ok (.ireturn, 1) := by decide +kernel
theorem dX6_bring_0 : decode cX6_bring 0 = .ok (.iconst 0, 1) := by decide +kernel
theorem dX6_bring_1 : decode cX6_bring 1 = .ok (.istore 4, 2) := by decide +kernel
theorem dX6_bring_3 : decode cX6_bring 3 = .ok (.iload 4, 2) := by decide +kernel
theorem dX6_bring_5 : decode cX6_bring 5 = .ok (.iload_n 3, 1) := by decide +kernel
theorem dX6_bring_6 : decode cX6_bring 6 = .ok (.if_icmp .ge 27, 3) := by decide +kernel
theorem dX6_bring_9 : decode cX6_bring 9 = .ok (.aload_n 0, 1) := by decide +kernel
theorem dX6_bring_10 : decode cX6_bring 10 = .ok (.getfield 7, 3) := by decide +kernel
theorem dX6_bring_13 : decode cX6_bring 13 = .ok (.iload_n 2, 1) := by decide +kernel
theorem dX6_bring_14 : decode cX6_bring 14 = .ok (.iload 4, 2) := by decide +kernel
theorem dX6_bring_16 : decode cX6_bring 16 = .ok (.iadd, 1) := by decide +kernel
theorem dX6_bring_17 : decode cX6_bring 17 = .ok (.aload_n 0, 1) := by decide +kernel
theorem dX6_bring_18 : decode cX6_bring 18 = .ok (.getfield 7, 3) := by decide +kernel
theorem dX6_bring_21 : decode cX6_bring 21 = .ok (.iload_n 1, 1) := by decide +kernel
theorem dX6_bring_22 : decode cX6_bring 22 = .ok (.iload 4, 2) := by decide +kernel
theorem dX6_bring_24 : decode cX6_bring 24 = .ok (.iadd, 1) := by decide +kernel
theorem dX6_bring_25 : decode cX6_bring 25 = .ok (.iaload, 1) := by decide +kernel
theorem dX6_bring_26 : decode cX6_bring 26 = .ok (.iastore, 1) := by decide +kernel
theorem dX6_bring_27 : decode cX6_bring 27 = .ok (.iinc 4 1, 3) := by decide +kernel
theorem dX6_bring_30 : decode cX6_bring 30 = .ok (.goto (-27), 3) := by decide +kernel
theorem dX6_bring_33 : decode cX6_bring 33 = .ok (.return_, 1) := by decide +kernel
theorem dX6_isPlace_0 : decode cX6_isPlace 0 = .ok (.iload_n 0, 1) := by decide +kernel
theorem dX6_isPlace_1 : decode cX6_isPlace 1 = .ok (.i2l, 1) := by decide +kernel
theorem dX6_isPlace_2 : decode cX6_isPlace 2 = .ok (.lconst 0, 1) := by decide +kernel
theorem dX6_isPlace_3 : decode cX6_isPlace 3 = .ok (.ldc2_w 50, 3) := by decide +kernel
theorem dX6_isPlace_6 : decode cX6_isPlace 6 = .ok (.invokestatic 52, 3) := by decide +kernel
theorem dX6_isPlace_9 : decode cX6_isPlace 9 = .ok (.ireturn, 1) := by decide +kernel
theorem dX6_isAngel_0 : decode cX6_isAngel 0 = .ok (.iload_n 1, 1) := by decide +kernel
theorem dX6_isAngel_1 : decode cX6_isAngel 1 = .ok (.i2l, 1) := by decide +kernel
theorem dX6_isAngel_2 : decode cX6_isAngel 2 = .ok (.lconst 0, 1) := by decide +kernel
theorem dX6_isAngel_3 : decode cX6_isAngel 3 = .ok (.aload_n 0, 1) := by decide +kernel
theorem dX6_isAngel_4 : decode cX6_isAngel 4 = .ok (.getfield 7, 3) := by decide +kernel
theorem dX6_isAngel_7 : decode cX6_isAngel 7 = .ok (.iconst 0, 1) := by decide +kernel
theorem dX6_isAngel_8 : decode cX6_isAngel 8 = .ok (.iaload, 1) := by decide +kernel
theorem dX6_isAngel_9 : decode cX6_isAngel 9 = .ok (.iconst 1, 1) := by decide +kernel
theorem dX6_isAngel_10 : decode cX6_isAngel 10 = .ok (.isub, 1) := by decide +kernel
theorem dX6_isAngel_11 : decode cX6_isAngel 11 = .ok (.i2l, 1) := by decide +kernel
theorem dX6_isAngel_12 : decode cX6_isAngel 12 = .ok (.invokestatic 52, 3) := by decide +kernel
theorem dX6_isAngel_15 : decode cX6_isAngel 15 = .ok (.ireturn, 1) := by decide +kernel
theorem dX6_isFigure_0 : decode cX6_isFigure 0 = .ok (.iload_n 1, 1) := by decide +kernel
theorem dX6_isFigure_1 : decode cX6_isFigure 1 = .ok (.i2l, 1) := by decide +kernel
theorem dX6_isFigure_2 : decode cX6_isFigure 2 = .ok (.lconst 0, 1) := by decide +kernel
theorem dX6_isFigure_3 : decode cX6_isFigure 3 = .ok (.aload_n 0, 1) := by decide +kernel
theorem dX6_isFigure_4 : decode cX6_isFigure 4 = .ok (.getfield 7, 3) := by decide +kernel
theorem dX6_isFigure_7 : decode cX6_isFigure 7 = .ok (.iconst 1, 1) := by decide +kernel
theorem dX6_isFigure_8 : decode cX6_isFigure 8 = .ok (.iaload, 1) := by decide +kernel
theorem dX6_isFigure_9 : decode cX6_isFigure 9 = .ok (.iconst 1, 1) := by decide +kernel
theorem dX6_isFigure_10 : decode cX6_isFigure 10 = .ok (.isub, 1) := by decide +kernel
theorem dX6_isFigure_11 : decode cX6_isFigure 11 = .ok (.i2l, 1) := by decide +kernel
theorem dX6_isFigure_12 : decode cX6_isFigure 12 = .ok (.invokestatic 52, 3) := by decide +kernel
theorem dX6_isFigure_15 : decode cX6_isFigure 15 = .ok (.ireturn, 1) := by decide +kernel
theorem dX6_round_0 : decode cX6_round 0 = .ok (.iload_n 0, 1) := by decide +kernel
theorem dX6_round_1 : decode cX6_round 1 = .ok (.iload_n 1, 1) := by decide +kernel
theorem dX6_round_2 : decode cX6_round 2 = .ok (.iadd, 1) := by decide +kernel
theorem dX6_round_3 : decode cX6_round 3 = .ok (.bipush 8, 2) := by decide +kernel
theorem dX6_round_5 : decode cX6_round 5 = .ok (.irem, 1) := by decide +kernel
theorem dX6_round_6 : decode cX6_round 6 = .ok (.ireturn, 1) := by decide +kernel
theorem dX6_mirror_0 : decode cX6_mirror 0 = .ok (.bipush 8, 2) := by decide +kernel
theorem dX6_mirror_2 : decode cX6_mirror 2 = .ok (.iload_n 0, 1) := by decide +kernel
theorem dX6_mirror_3 : decode cX6_mirror 3 = .ok (.isub, 1) := by decide +kernel
theorem dX6_mirror_4 : decode cX6_mirror 4 = .ok (.bipush 8, 2) := by decide +kernel
theorem dX6_mirror_6 : decode cX6_mirror 6 = .ok (.irem, 1) := by decide +kernel
theorem dX6_mirror_7 : decode cX6_mirror 7 = .ok (.iload_n 1, 1) := by decide +kernel
theorem dX6_mirror_8 : decode cX6_mirror 8 = .ok (.invokestatic 56, 3) := by decide +kernel
theorem dX6_mirror_11 : decode cX6_mirror 11 = .ok (.ireturn, 1) := by decide +kernel
theorem dX6_leadsBy_0 : decode cX6_leadsBy 0 = .ok (.iload_n 0, 1) := by decide +kernel
theorem dX6_leadsBy_1 : decode cX6_leadsBy 1 = .ok (.tableswitch 98 1 4 #[31, 41, 47, 67], 31) := by decide +kernel
theorem dX6_leadsBy_32 : decode cX6_leadsBy 32 = .ok (.iload_n 2, 1) := by decide +kernel
theorem dX6_leadsBy_33 : decode cX6_leadsBy 33 = .ok (.iload_n 1, 1) := by decide +kernel
theorem dX6_leadsBy_34 : decode cX6_leadsBy 34 = .ok (.invokestatic 56, 3) := by decide +kernel
theorem dX6_leadsBy_37 : decode cX6_leadsBy 37 = .ok (.iload_n 1, 1) := by decide +kernel
theorem dX6_leadsBy_38 : decode cX6_leadsBy 38 = .ok (.invokestatic 56, 3) := by decide +kernel
theorem dX6_leadsBy_41 : decode cX6_leadsBy 41 = .ok (.ireturn, 1) := by decide +kernel
theorem dX6_leadsBy_42 : decode cX6_leadsBy 42 = .ok (.iload_n 2, 1) := by decide +kernel
theorem dX6_leadsBy_43 : decode cX6_leadsBy 43 = .ok (.iload_n 1, 1) := by decide +kernel
theorem dX6_leadsBy_44 : decode cX6_leadsBy 44 = .ok (.invokestatic 60, 3) := by decide +kernel
theorem dX6_leadsBy_47 : decode cX6_leadsBy 47 = .ok (.ireturn, 1) := by decide +kernel
theorem dX6_leadsBy_48 : decode cX6_leadsBy 48 = .ok (.iload_n 2, 1) := by decide +kernel
theorem dX6_leadsBy_49 : decode cX6_leadsBy 49 = .ok (.iconst 2, 1) := by decide +kernel
theorem dX6_leadsBy_50 : decode cX6_leadsBy 50 = .ok (.irem, 1) := by decide +kernel
theorem dX6_leadsBy_51 : decode cX6_leadsBy 51 = .ok (.ifCond .ne 15, 3) := by decide +kernel
theorem dX6_leadsBy_54 : decode cX6_leadsBy 54 = .ok (.iload_n 2, 1) := by decide +kernel
theorem dX6_leadsBy_55 : decode cX6_leadsBy 55 = .ok (.iload_n 1, 1) := by decide +kernel
theorem dX6_leadsBy_56 : decode cX6_leadsBy 56 = .ok (.invokestatic 56, 3) := by decide +kernel
theorem dX6_leadsBy_59 : decode cX6_leadsBy 59 = .ok (.iload_n 1, 1) := by decide +kernel
theorem dX6_leadsBy_60 : decode cX6_leadsBy 60 = .ok (.invokestatic 56, 3) := by decide +kernel
theorem dX6_leadsBy_63 : decode cX6_leadsBy 63 = .ok (.goto 4, 3) := by decide +kernel
theorem dX6_leadsBy_66 : decode cX6_leadsBy 66 = .ok (.iload_n 2, 1) := by decide +kernel
theorem dX6_leadsBy_67 : decode cX6_leadsBy 67 = .ok (.ireturn, 1) := by decide +kernel
theorem dX6_leadsBy_68 : decode cX6_leadsBy 68 = .ok (.iload_n 2, 1) := by decide +kernel
theorem dX6_leadsBy_69 : decode cX6_leadsBy 69 = .ok (.iload_n 1, 1) := by decide +kernel
theorem dX6_leadsBy_70 : decode cX6_leadsBy 70 = .ok (.invokestatic 60, 3) := by decide +kernel
theorem dX6_leadsBy_73 : decode cX6_leadsBy 73 = .ok (.ifCond .ne 7, 3) := by decide +kernel
theorem dX6_leadsBy_76 : decode cX6_leadsBy 76 = .ok (.iconst 4, 1) := by decide +kernel
theorem dX6_leadsBy_77 : decode cX6_leadsBy 77 = .ok (.goto 21, 3) := by decide +kernel
theorem dX6_leadsBy_80 : decode cX6_leadsBy 80 = .ok (.iload_n 2, 1) := by decide +kernel
theorem dX6_leadsBy_81 : decode cX6_leadsBy 81 = .ok (.iload_n 1, 1) := by decide +kernel
theorem dX6_leadsBy_82 : decode cX6_leadsBy 82 = .ok (.invokestatic 60, 3) := by decide +kernel
theorem dX6_leadsBy_85 : decode cX6_leadsBy 85 = .ok (.iconst 4, 1) := by decide +kernel
theorem dX6_leadsBy_86 : decode cX6_leadsBy 86 = .ok (.if_icmp .ne 7, 3) := by decide +kernel
theorem dX6_leadsBy_89 : decode cX6_leadsBy 89 = .ok (.iconst 0, 1) := by decide +kernel
theorem dX6_leadsBy_90 : decode cX6_leadsBy 90 = .ok (.goto 8, 3) := by decide +kernel
theorem dX6_leadsBy_93 : decode cX6_leadsBy 93 = .ok (.iload_n 2, 1) := by decide +kernel
theorem dX6_leadsBy_94 : decode cX6_leadsBy 94 = .ok (.iload_n 1, 1) := by decide +kernel
theorem dX6_leadsBy_95 : decode cX6_leadsBy 95 = .ok (.invokestatic 60, 3) := by decide +kernel
theorem dX6_leadsBy_98 : decode cX6_leadsBy 98 = .ok (.ireturn, 1) := by decide +kernel
theorem dX6_leadsBy_99 : decode cX6_leadsBy 99 = .ok (.iload_n 2, 1) := by decide +kernel
theorem dX6_leadsBy_100 : decode cX6_leadsBy 100 = .ok (.iload_n 1, 1) := by decide +kernel
theorem dX6_leadsBy_101 : decode cX6_leadsBy 101 = .ok (.invokestatic 56, 3) := by decide +kernel
theorem dX6_leadsBy_104 : decode cX6_leadsBy 104 = .ok (.ireturn, 1) := by decide +kernel
theorem dX6_leadsOf_0 : decode cX6_leadsOf 0 = .ok (.aload_n 0, 1) := by decide +kernel
theorem dX6_leadsOf_1 : decode cX6_leadsOf 1 = .ok (.getfield 7, 3) := by decide +kernel
theorem dX6_leadsOf_4 : decode cX6_leadsOf 4 = .ok (.bipush 13, 2) := by decide +kernel
theorem dX6_leadsOf_6 : decode cX6_leadsOf 6 = .ok (.iload_n 1, 1) := by decide +kernel
theorem dX6_leadsOf_7 : decode cX6_leadsOf 7 = .ok (.iadd, 1) := by decide +kernel
theorem dX6_leadsOf_8 : decode cX6_leadsOf 8 = .ok (.iaload, 1) := by decide +kernel
theorem dX6_leadsOf_9 : decode cX6_leadsOf 9 = .ok (.aload_n 0, 1) := by decide +kernel
theorem dX6_leadsOf_10 : decode cX6_leadsOf 10 = .ok (.getfield 7, 3) := by decide +kernel
theorem dX6_leadsOf_13 : decode cX6_leadsOf 13 = .ok (.bipush 18, 2) := by decide +kernel
theorem dX6_leadsOf_15 : decode cX6_leadsOf 15 = .ok (.iload_n 1, 1) := by decide +kernel
theorem dX6_leadsOf_16 : decode cX6_leadsOf 16 = .ok (.iadd, 1) := by decide +kernel
theorem dX6_leadsOf_17 : decode cX6_leadsOf 17 = .ok (.iaload, 1) := by decide +kernel
theorem dX6_leadsOf_18 : decode cX6_leadsOf 18 = .ok (.iload_n 2, 1) := by decide +kernel
theorem dX6_leadsOf_19 : decode cX6_leadsOf 19 = .ok (.invokestatic 63, 3) := by decide +kernel
theorem dX6_leadsOf_22 : decode cX6_leadsOf 22 = .ok (.ireturn, 1) := by decide +kernel
theorem dX6_orderOf_0 : decode cX6_orderOf 0 = .ok (.iconst 0, 1) := by decide +kernel
theorem dX6_orderOf_1 : decode cX6_orderOf 1 = .ok (.istore_n 2, 1) := by decide +kernel
theorem dX6_orderOf_2 : decode cX6_orderOf 2 = .ok (.iconst 0, 1) := by decide +kernel
theorem dX6_orderOf_3 : decode cX6_orderOf 3 = .ok (.istore_n 3, 1) := by decide +kernel
theorem dX6_orderOf_4 : decode cX6_orderOf 4 = .ok (.iconst 0, 1) := by decide +kernel
theorem dX6_orderOf_5 : decode cX6_orderOf 5 = .ok (.istore 4, 2) := by decide +kernel
theorem dX6_orderOf_7 : decode cX6_orderOf 7 = .ok (.iload 4, 2) := by decide +kernel
theorem dX6_orderOf_9 : decode cX6_orderOf 9 = .ok (.bipush 8, 2) := by decide +kernel
theorem dX6_orderOf_11 : decode cX6_orderOf 11 = .ok (.if_icmp .ge 18, 3) := by decide +kernel
theorem dX6_orderOf_14 : decode cX6_orderOf 14 = .ok (.aload_n 0, 1) := by decide +kernel
theorem dX6_orderOf_15 : decode cX6_orderOf 15 = .ok (.getfield 26, 3) := by decide +kernel
theorem dX6_orderOf_18 : decode cX6_orderOf 18 = .ok (.iload 4, 2) := by decide +kernel
theorem dX6_orderOf_20 : decode cX6_orderOf 20 = .ok (.iload 4, 2) := by decide +kernel
theorem dX6_orderOf_22 : decode cX6_orderOf 22 = .ok (.iastore, 1) := by decide +kernel
theorem dX6_orderOf_23 : decode cX6_orderOf 23 = .ok (.iinc 4 1, 3) := by decide +kernel
theorem dX6_orderOf_26 : decode cX6_orderOf 26 = .ok (.goto (-19), 3) := by decide +kernel
theorem dX6_orderOf_29 : decode cX6_orderOf 29 = .ok (.iload_n 3, 1) := by decide +kernel
theorem dX6_orderOf_30 : decode cX6_orderOf 30 = .ok (.ifCond .ne 68, 3) := by decide +kernel
theorem dX6_orderOf_33 : decode cX6_orderOf 33 = .ok (.iconst 1, 1) := by decide +kernel
theorem dX6_orderOf_34 : decode cX6_orderOf 34 = .ok (.istore_n 3, 1) := by decide +kernel
theorem dX6_orderOf_35 : decode cX6_orderOf 35 = .ok (.iinc 2 1, 3) := by decide +kernel
theorem dX6_orderOf_38 : decode cX6_orderOf 38 = .ok (.iconst 0, 1) := by decide +kernel
theorem dX6_orderOf_39 : decode cX6_orderOf 39 = .ok (.istore 4, 2) := by decide +kernel
theorem dX6_orderOf_41 : decode cX6_orderOf 41 = .ok (.iload 4, 2) := by decide +kernel
theorem dX6_orderOf_43 : decode cX6_orderOf 43 = .ok (.bipush 8, 2) := by decide +kernel
theorem dX6_orderOf_45 : decode cX6_orderOf 45 = .ok (.if_icmp .ge 50, 3) := by decide +kernel
theorem dX6_orderOf_48 : decode cX6_orderOf 48 = .ok (.aload_n 0, 1) := by decide +kernel
theorem dX6_orderOf_49 : decode cX6_orderOf 49 = .ok (.getfield 26, 3) := by decide +kernel
theorem dX6_orderOf_52 : decode cX6_orderOf 52 = .ok (.iload 4, 2) := by decide +kernel
theorem dX6_orderOf_54 : decode cX6_orderOf 54 = .ok (.aload_n 0, 1) := by decide +kernel
theorem dX6_orderOf_55 : decode cX6_orderOf 55 = .ok (.iload_n 1, 1) := by decide +kernel
theorem dX6_orderOf_56 : decode cX6_orderOf 56 = .ok (.aload_n 0, 1) := by decide +kernel
theorem dX6_orderOf_57 : decode cX6_orderOf 57 = .ok (.getfield 26, 3) := by decide +kernel
theorem dX6_orderOf_60 : decode cX6_orderOf 60 = .ok (.iload 4, 2) := by decide +kernel
theorem dX6_orderOf_62 : decode cX6_orderOf 62 = .ok (.iaload, 1) := by decide +kernel
theorem dX6_orderOf_63 : decode cX6_orderOf 63 = .ok (.invokevirtual 67, 3) := by decide +kernel
theorem dX6_orderOf_66 : decode cX6_orderOf 66 = .ok (.iastore, 1) := by decide +kernel
theorem dX6_orderOf_67 : decode cX6_orderOf 67 = .ok (.iload_n 3, 1) := by decide +kernel
theorem dX6_orderOf_68 : decode cX6_orderOf 68 = .ok (.ifCond .eq 19, 3) := by decide +kernel
theorem dX6_orderOf_71 : decode cX6_orderOf 71 = .ok (.aload_n 0, 1) := by decide +kernel
theorem dX6_orderOf_72 : decode cX6_orderOf 72 = .ok (.getfield 26, 3) := by decide +kernel
theorem dX6_orderOf_75 : decode cX6_orderOf 75 = .ok (.iload 4, 2) := by decide +kernel
theorem dX6_orderOf_77 : decode cX6_orderOf 77 = .ok (.iaload, 1) := by decide +kernel
theorem dX6_orderOf_78 : decode cX6_orderOf 78 = .ok (.iload 4, 2) := by decide +kernel
theorem dX6_orderOf_80 : decode cX6_orderOf 80 = .ok (.if_icmp .ne 7, 3) := by decide +kernel
theorem dX6_orderOf_83 : decode cX6_orderOf 83 = .ok (.iconst 1, 1) := by decide +kernel
theorem dX6_orderOf_84 : decode cX6_orderOf 84 = .ok (.goto 4, 3) := by decide +kernel
theorem dX6_orderOf_87 : decode cX6_orderOf 87 = .ok (.iconst 0, 1) := by decide +kernel
theorem dX6_orderOf_88 : decode cX6_orderOf 88 = .ok (.istore_n 3, 1) := by decide +kernel
theorem dX6_orderOf_89 : decode cX6_orderOf 89 = .ok (.iinc 4 1, 3) := by decide +kernel
theorem dX6_orderOf_92 : decode cX6_orderOf 92 = .ok (.goto (-51), 3) := by decide +kernel
theorem dX6_orderOf_95 : decode cX6_orderOf 95 = .ok (.goto (-66), 3) := by decide +kernel
theorem dX6_orderOf_98 : decode cX6_orderOf 98 = .ok (.iload_n 2, 1) := by decide +kernel
theorem dX6_orderOf_99 : decode cX6_orderOf 99 = .ok (.ireturn, 1) := by decide +kernel
theorem dX6_keptBy_0 : decode cX6_keptBy 0 = .ok (.iconst 0, 1) := by decide +kernel
theorem dX6_keptBy_1 : decode cX6_keptBy 1 = .ok (.istore_n 2, 1) := by decide +kernel
theorem dX6_keptBy_2 : decode cX6_keptBy 2 = .ok (.iconst 0, 1) := by decide +kernel
theorem dX6_keptBy_3 : decode cX6_keptBy 3 = .ok (.istore_n 3, 1) := by decide +kernel
theorem dX6_keptBy_4 : decode cX6_keptBy 4 = .ok (.iload_n 3, 1) := by decide +kernel
theorem dX6_keptBy_5 : decode cX6_keptBy 5 = .ok (.bipush 8, 2) := by decide +kernel
theorem dX6_keptBy_7 : decode cX6_keptBy 7 = .ok (.if_icmp .ge 29, 3) := by decide +kernel
theorem dX6_keptBy_10 : decode cX6_keptBy 10 = .ok (.iload_n 2, 1) := by decide +kernel
theorem dX6_keptBy_11 : decode cX6_keptBy 11 = .ok (.aload_n 0, 1) := by decide +kernel
theorem dX6_keptBy_12 : decode cX6_keptBy 12 = .ok (.iload_n 1, 1) := by decide +kernel
theorem dX6_keptBy_13 : decode cX6_keptBy 13 = .ok (.iload_n 3, 1) := by decide +kernel
theorem dX6_keptBy_14 : decode cX6_keptBy 14 = .ok (.invokevirtual 67, 3) := by decide +kernel
theorem dX6_keptBy_17 : decode cX6_keptBy 17 = .ok (.iload_n 3, 1) := by decide +kernel
theorem dX6_keptBy_18 : decode cX6_keptBy 18 = .ok (.if_icmp .ne 9, 3) := by decide +kernel
theorem dX6_keptBy_21 : decode cX6_keptBy 21 = .ok (.iconst 1, 1) := by decide +kernel
theorem dX6_keptBy_22 : decode cX6_keptBy 22 = .ok (.iload_n 3, 1) := by decide +kernel
theorem dX6_keptBy_23 : decode cX6_keptBy 23 = .ok (.ishl, 1) := by decide +kernel
theorem dX6_keptBy_24 : decode cX6_keptBy 24 = .ok (.goto 4, 3) := by decide +kernel
theorem dX6_keptBy_27 : decode cX6_keptBy 27 = .ok (.iconst 0, 1) := by decide +kernel
theorem dX6_keptBy_28 : decode cX6_keptBy 28 = .ok (.ior, 1) := by decide +kernel
theorem dX6_keptBy_29 : decode cX6_keptBy 29 = .ok (.istore_n 2, 1) := by decide +kernel
theorem dX6_keptBy_30 : decode cX6_keptBy 30 = .ok (.iinc 3 1, 3) := by decide +kernel
theorem dX6_keptBy_33 : decode cX6_keptBy 33 = .ok (.goto (-29), 3) := by decide +kernel
theorem dX6_keptBy_36 : decode cX6_keptBy 36 = .ok (.iload_n 2, 1) := by decide +kernel
theorem dX6_keptBy_37 : decode cX6_keptBy 37 = .ok (.ireturn, 1) := by decide +kernel
theorem dX6_areAlike_0 : decode cX6_areAlike 0 = .ok (.iconst 1, 1) := by decide +kernel
theorem dX6_areAlike_1 : decode cX6_areAlike 1 = .ok (.istore_n 3, 1) := by decide +kernel
theorem dX6_areAlike_2 : decode cX6_areAlike 2 = .ok (.iconst 0, 1) := by decide +kernel
theorem dX6_areAlike_3 : decode cX6_areAlike 3 = .ok (.istore 4, 2) := by decide +kernel
theorem dX6_areAlike_5 : decode cX6_areAlike 5 = .ok (.iload 4, 2) := by decide +kernel
theorem dX6_areAlike_7 : decode cX6_areAlike 7 = .ok (.bipush 8, 2) := by decide +kernel
theorem dX6_areAlike_9 : decode cX6_areAlike 9 = .ok (.if_icmp .ge 36, 3) := by decide +kernel
theorem dX6_areAlike_12 : decode cX6_areAlike 12 = .ok (.iload_n 3, 1) := by decide +kernel
theorem dX6_areAlike_13 : decode cX6_areAlike 13 = .ok (.ifCond .eq 24, 3) := by decide +kernel
theorem dX6_areAlike_16 : decode cX6_areAlike 16 = .ok (.aload_n 0, 1) := by decide +kernel
theorem dX6_areAlike_17 : decode cX6_areAlike 17 = .ok (.iload_n 1, 1) := by decide +kernel
theorem dX6_areAlike_18 : decode cX6_areAlike 18 = .ok (.iload 4, 2) := by decide +kernel
theorem dX6_areAlike_20 : decode cX6_areAlike 20 = .ok (.invokevirtual 67, 3) := by decide +kernel
theorem dX6_areAlike_23 : decode cX6_areAlike 23 = .ok (.aload_n 0, 1) := by decide +kernel
theorem dX6_areAlike_24 : decode cX6_areAlike 24 = .ok (.iload_n 2, 1) := by decide +kernel
theorem dX6_areAlike_25 : decode cX6_areAlike 25 = .ok (.iload 4, 2) := by decide +kernel
theorem dX6_areAlike_27 : decode cX6_areAlike 27 = .ok (.invokevirtual 67, 3) := by decide +kernel
theorem dX6_areAlike_30 : decode cX6_areAlike 30 = .ok (.if_icmp .ne 7, 3) := by decide +kernel
theorem dX6_areAlike_33 : decode cX6_areAlike 33 = .ok (.iconst 1, 1) := by decide +kernel
theorem dX6_areAlike_34 : decode cX6_areAlike 34 = .ok (.goto 4, 3) := by decide +kernel
theorem dX6_areAlike_37 : decode cX6_areAlike 37 = .ok (.iconst 0, 1) := by decide +kernel
theorem dX6_areAlike_38 : decode cX6_areAlike 38 = .ok (.istore_n 3, 1) := by decide +kernel
theorem dX6_areAlike_39 : decode cX6_areAlike 39 = .ok (.iinc 4 1, 3) := by decide +kernel
theorem dX6_areAlike_42 : decode cX6_areAlike 42 = .ok (.goto (-37), 3) := by decide +kernel
theorem dX6_areAlike_45 : decode cX6_areAlike 45 = .ok (.iload_n 3, 1) := by decide +kernel
theorem dX6_areAlike_46 : decode cX6_areAlike 46 = .ok (.ireturn, 1) := by decide +kernel
theorem dX6_sameAs_0 : decode cX6_sameAs 0 = .ok (.iconst 0, 1) := by decide +kernel
theorem dX6_sameAs_1 : decode cX6_sameAs 1 = .ok (.istore_n 2, 1) := by decide +kernel
theorem dX6_sameAs_2 : decode cX6_sameAs 2 = .ok (.aload_n 0, 1) := by decide +kernel
theorem dX6_sameAs_3 : decode cX6_sameAs 3 = .ok (.iload_n 1, 1) := by decide +kernel
theorem dX6_sameAs_4 : decode cX6_sameAs 4 = .ok (.iload_n 2, 1) := by decide +kernel
theorem dX6_sameAs_5 : decode cX6_sameAs 5 = .ok (.invokevirtual 70, 3) := by decide +kernel
theorem dX6_sameAs_8 : decode cX6_sameAs 8 = .ok (.ifCond .ne 9, 3) := by decide +kernel
theorem dX6_sameAs_11 : decode cX6_sameAs 11 = .ok (.iinc 2 1, 3) := by decide +kernel
theorem dX6_sameAs_14 : decode cX6_sameAs 14 = .ok (.goto (-12), 3) := by decide +kernel
theorem dX6_sameAs_17 : decode cX6_sameAs 17 = .ok (.iload_n 2, 1) := by decide +kernel
theorem dX6_sameAs_18 : decode cX6_sameAs 18 = .ok (.ireturn, 1) := by decide +kernel
theorem dX6_taken_0 : decode cX6_taken 0 = .ok (.iconst 0, 1) := by decide +kernel
theorem dX6_taken_1 : decode cX6_taken 1 = .ok (.istore_n 1, 1) := by decide +kernel
theorem dX6_taken_2 : decode cX6_taken 2 = .ok (.iconst 0, 1) := by decide +kernel
theorem dX6_taken_3 : decode cX6_taken 3 = .ok (.istore_n 2, 1) := by decide +kernel
theorem dX6_taken_4 : decode cX6_taken 4 = .ok (.iload_n 2, 1) := by decide +kernel
theorem dX6_taken_5 : decode cX6_taken 5 = .ok (.aload_n 0, 1) := by decide +kernel
theorem dX6_taken_6 : decode cX6_taken 6 = .ok (.getfield 7, 3) := by decide +kernel
theorem dX6_taken_9 : decode cX6_taken 9 = .ok (.iconst 0, 1) := by decide +kernel
theorem dX6_taken_10 : decode cX6_taken 10 = .ok (.iaload, 1) := by decide +kernel
theorem dX6_taken_11 : decode cX6_taken 11 = .ok (.if_icmp .ge 39, 3) := by decide +kernel
theorem dX6_taken_14 : decode cX6_taken 14 = .ok (.iload_n 1, 1) := by decide +kernel
theorem dX6_taken_15 : decode cX6_taken 15 = .ok (.aload_n 0, 1) := by decide +kernel
theorem dX6_taken_16 : decode cX6_taken 16 = .ok (.getfield 7, 3) := by decide +kernel
theorem dX6_taken_19 : decode cX6_taken 19 = .ok (.iconst 5, 1) := by decide +kernel
theorem dX6_taken_20 : decode cX6_taken 20 = .ok (.iload_n 2, 1) := by decide +kernel
theorem dX6_taken_21 : decode cX6_taken 21 = .ok (.iadd, 1) := by decide +kernel
theorem dX6_taken_22 : decode cX6_taken 22 = .ok (.iaload, 1) := by decide +kernel
theorem dX6_taken_23 : decode cX6_taken 23 = .ok (.bipush (-4), 2) := by decide +kernel
theorem dX6_taken_25 : decode cX6_taken 25 = .ok (.if_icmp .ne 7, 3) := by decide +kernel
theorem dX6_taken_28 : decode cX6_taken 28 = .ok (.iconst 0, 1) := by decide +kernel
theorem dX6_taken_29 : decode cX6_taken 29 = .ok (.goto 13, 3) := by decide +kernel
theorem dX6_taken_32 : decode cX6_taken 32 = .ok (.iconst 1, 1) := by decide +kernel
theorem dX6_taken_33 : decode cX6_taken 33 = .ok (.aload_n 0, 1) := by decide +kernel
theorem dX6_taken_34 : decode cX6_taken 34 = .ok (.getfield 7, 3) := by decide +kernel
theorem dX6_taken_37 : decode cX6_taken 37 = .ok (.iconst 5, 1) := by decide +kernel
theorem dX6_taken_38 : decode cX6_taken 38 = .ok (.iload_n 2, 1) := by decide +kernel
theorem dX6_taken_39 : decode cX6_taken 39 = .ok (.iadd, 1) := by decide +kernel
theorem dX6_taken_40 : decode cX6_taken 40 = .ok (.iaload, 1) := by decide +kernel
theorem dX6_taken_41 : decode cX6_taken 41 = .ok (.ishl, 1) := by decide +kernel
theorem dX6_taken_42 : decode cX6_taken 42 = .ok (.ior, 1) := by decide +kernel
theorem dX6_taken_43 : decode cX6_taken 43 = .ok (.istore_n 1, 1) := by decide +kernel
theorem dX6_taken_44 : decode cX6_taken 44 = .ok (.iinc 2 1, 3) := by decide +kernel
theorem dX6_taken_47 : decode cX6_taken 47 = .ok (.goto (-43), 3) := by decide +kernel
theorem dX6_taken_50 : decode cX6_taken 50 = .ok (.iload_n 1, 1) := by decide +kernel
theorem dX6_taken_51 : decode cX6_taken 51 = .ok (.ireturn, 1) := by decide +kernel
theorem dX6_angel_0 : decode cX6_angel 0 = .ok (.iload_n 1, 1) := by decide +kernel
theorem dX6_angel_1 : decode cX6_angel 1 = .ok (.invokestatic 74, 3) := by decide +kernel
theorem dX6_angel_4 : decode cX6_angel 4 = .ok (.ifCond .ne 5, 3) := by decide +kernel
theorem dX6_angel_7 : decode cX6_angel 7 = .ok (.iconst (-1), 1) := by decide +kernel
theorem dX6_angel_8 : decode cX6_angel 8 = .ok (.ireturn, 1) := by decide +kernel
theorem dX6_angel_9 : decode cX6_angel 9 = .ok (.aload_n 0, 1) := by decide +kernel
theorem dX6_angel_10 : decode cX6_angel 10 = .ok (.getfield 7, 3) := by decide +kernel
theorem dX6_angel_13 : decode cX6_angel 13 = .ok (.iconst 0, 1) := by decide +kernel
theorem dX6_angel_14 : decode cX6_angel 14 = .ok (.iaload, 1) := by decide +kernel
theorem dX6_angel_15 : decode cX6_angel 15 = .ok (.bipush 8, 2) := by decide +kernel
theorem dX6_angel_17 : decode cX6_angel 17 = .ok (.if_icmp .ne 6, 3) := by decide +kernel
theorem dX6_angel_20 : decode cX6_angel 20 = .ok (.bipush (-3), 2) := by decide +kernel
theorem dX6_angel_22 : decode cX6_angel 22 = .ok (.ireturn, 1) := by decide +kernel
theorem dX6_angel_23 : decode cX6_angel 23 = .ok (.aload_n 0, 1) := by decide +kernel
theorem dX6_angel_24 : decode cX6_angel 24 = .ok (.invokevirtual 78, 3) := by decide +kernel
theorem dX6_angel_27 : decode cX6_angel 27 = .ok (.iload_n 1, 1) := by decide +kernel
theorem dX6_angel_28 : decode cX6_angel 28 = .ok (.invokestatic 82, 3) := by decide +kernel
theorem dX6_angel_31 : decode cX6_angel 31 = .ok (.ifCond .eq 6, 3) := by decide +kernel
theorem dX6_angel_34 : decode cX6_angel 34 = .ok (.bipush (-2), 2) := by decide +kernel
theorem dX6_angel_36 : decode cX6_angel 36 = .ok (.ireturn, 1) := by decide +kernel
theorem dX6_angel_37 : decode cX6_angel 37 = .ok (.aload_n 0, 1) := by decide +kernel
theorem dX6_angel_38 : decode cX6_angel 38 = .ok (.getfield 7, 3) := by decide +kernel
theorem dX6_angel_41 : decode cX6_angel 41 = .ok (.iconst 5, 1) := by decide +kernel
theorem dX6_angel_42 : decode cX6_angel 42 = .ok (.aload_n 0, 1) := by decide +kernel
theorem dX6_angel_43 : decode cX6_angel 43 = .ok (.getfield 7, 3) := by decide +kernel
theorem dX6_angel_46 : decode cX6_angel 46 = .ok (.iconst 0, 1) := by decide +kernel
theorem dX6_angel_47 : decode cX6_angel 47 = .ok (.iaload, 1) := by decide +kernel
theorem dX6_angel_48 : decode cX6_angel 48 = .ok (.iadd, 1) := by decide +kernel
theorem dX6_angel_49 : decode cX6_angel 49 = .ok (.iload_n 1, 1) := by decide +kernel
theorem dX6_angel_50 : decode cX6_angel 50 = .ok (.iastore, 1) := by decide +kernel
theorem dX6_angel_51 : decode cX6_angel 51 = .ok (.aload_n 0, 1) := by decide +kernel
theorem dX6_angel_52 : decode cX6_angel 52 = .ok (.getfield 7, 3) := by decide +kernel
theorem dX6_angel_55 : decode cX6_angel 55 = .ok (.iconst 0, 1) := by decide +kernel
theorem dX6_angel_56 : decode cX6_angel 56 = .ok (.dup2, 1) := by decide +kernel
theorem dX6_angel_57 : decode cX6_angel 57 = .ok (.iaload, 1) := by decide +kernel
theorem dX6_angel_58 : decode cX6_angel 58 = .ok (.iconst 1, 1) := by decide +kernel
theorem dX6_angel_59 : decode cX6_angel 59 = .ok (.iadd, 1) := by decide +kernel
theorem dX6_angel_60 : decode cX6_angel 60 = .ok (.iastore, 1) := by decide +kernel
theorem dX6_angel_61 : decode cX6_angel 61 = .ok (.aload_n 0, 1) := by decide +kernel
theorem dX6_angel_62 : decode cX6_angel 62 = .ok (.getfield 7, 3) := by decide +kernel
theorem dX6_angel_65 : decode cX6_angel 65 = .ok (.bipush 39, 2) := by decide +kernel
theorem dX6_angel_67 : decode cX6_angel 67 = .ok (.iconst 0, 1) := by decide +kernel
theorem dX6_angel_68 : decode cX6_angel 68 = .ok (.iastore, 1) := by decide +kernel
theorem dX6_angel_69 : decode cX6_angel 69 = .ok (.aload_n 0, 1) := by decide +kernel
theorem dX6_angel_70 : decode cX6_angel 70 = .ok (.getfield 7, 3) := by decide +kernel
theorem dX6_angel_73 : decode cX6_angel 73 = .ok (.iconst 0, 1) := by decide +kernel
theorem dX6_angel_74 : decode cX6_angel 74 = .ok (.iaload, 1) := by decide +kernel
theorem dX6_angel_75 : decode cX6_angel 75 = .ok (.iconst 1, 1) := by decide +kernel
theorem dX6_angel_76 : decode cX6_angel 76 = .ok (.isub, 1) := by decide +kernel
theorem dX6_angel_77 : decode cX6_angel 77 = .ok (.ireturn, 1) := by decide +kernel
theorem dX6_figure_0 : decode cX6_figure 0 = .ok (.iload_n 1, 1) := by decide +kernel
theorem dX6_figure_1 : decode cX6_figure 1 = .ok (.i2l, 1) := by decide +kernel
theorem dX6_figure_2 : decode cX6_figure 2 = .ok (.lconst 0, 1) := by decide +kernel
theorem dX6_figure_3 : decode cX6_figure 3 = .ok (.ldc2_w 85, 3) := by decide +kernel
theorem dX6_figure_6 : decode cX6_figure 6 = .ok (.invokestatic 52, 3) := by decide +kernel
theorem dX6_figure_9 : decode cX6_figure 9 = .ok (.ifCond .eq 15, 3) := by decide +kernel
theorem dX6_figure_12 : decode cX6_figure 12 = .ok (.iload_n 2, 1) := by decide +kernel
theorem dX6_figure_13 : decode cX6_figure 13 = .ok (.i2l, 1) := by decide +kernel
theorem dX6_figure_14 : decode cX6_figure 14 = .ok (.lconst 0, 1) := by decide +kernel
theorem dX6_figure_15 : decode cX6_figure 15 = .ok (.ldc2_w 50, 3) := by decide +kernel
theorem dX6_figure_18 : decode cX6_figure 18 = .ok (.invokestatic 52, 3) := by decide +kernel
theorem dX6_figure_21 : decode cX6_figure 21 = .ok (.ifCond .ne 5, 3) := by decide +kernel
theorem dX6_figure_24 : decode cX6_figure 24 = .ok (.iconst (-1), 1) := by decide +kernel
theorem dX6_figure_25 : decode cX6_figure 25 = .ok (.ireturn, 1) := by decide +kernel
theorem dX6_figure_26 : decode cX6_figure 26 = .ok (.aload_n 0, 1) := by decide +kernel
theorem dX6_figure_27 : decode cX6_figure 27 = .ok (.getfield 7, 3) := by decide +kernel
theorem dX6_figure_30 : decode cX6_figure 30 = .ok (.iconst 1, 1) := by decide +kernel
theorem dX6_figure_31 : decode cX6_figure 31 = .ok (.iaload, 1) := by decide +kernel
theorem dX6_figure_32 : decode cX6_figure 32 = .ok (.iconst 5, 1) := by decide +kernel
theorem dX6_figure_33 : decode cX6_figure 33 = .ok (.if_icmp .ne 6, 3) := by decide +kernel
theorem dX6_figure_36 : decode cX6_figure 36 = .ok (.bipush (-3), 2) := by decide +kernel
theorem dX6_figure_38 : decode cX6_figure 38 = .ok (.ireturn, 1) := by decide +kernel
theorem dX6_figure_39 : decode cX6_figure 39 = .ok (.aload_n 0, 1) := by decide +kernel
theorem dX6_figure_40 : decode cX6_figure 40 = .ok (.getfield 7, 3) := by decide +kernel
theorem dX6_figure_43 : decode cX6_figure 43 = .ok (.bipush 13, 2) := by decide +kernel
theorem dX6_figure_45 : decode cX6_figure 45 = .ok (.aload_n 0, 1) := by decide +kernel
theorem dX6_figure_46 : decode cX6_figure 46 = .ok (.getfield 7, 3) := by decide +kernel
theorem dX6_figure_49 : decode cX6_figure 49 = .ok (.iconst 1, 1) := by decide +kernel
theorem dX6_figure_50 : decode cX6_figure 50 = .ok (.iaload, 1) := by decide +kernel
theorem dX6_figure_51 : decode cX6_figure 51 = .ok (.iadd, 1) := by decide +kernel
theorem dX6_figure_52 : decode cX6_figure 52 = .ok (.iload_n 1, 1) := by decide +kernel
theorem dX6_figure_53 : decode cX6_figure 53 = .ok (.iastore, 1) := by decide +kernel
theorem dX6_figure_54 : decode cX6_figure 54 = .ok (.aload_n 0, 1) := by decide +kernel
theorem dX6_figure_55 : decode cX6_figure 55 = .ok (.getfield 7, 3) := by decide +kernel
theorem dX6_figure_58 : decode cX6_figure 58 = .ok (.bipush 18, 2) := by decide +kernel
theorem dX6_figure_60 : decode cX6_figure 60 = .ok (.aload_n 0, 1) := by decide +kernel
theorem dX6_figure_61 : decode cX6_figure 61 = .ok (.getfield 7, 3) := by decide +kernel
theorem dX6_figure_64 : decode cX6_figure 64 = .ok (.iconst 1, 1) := by decide +kernel
theorem dX6_figure_65 : decode cX6_figure 65 = .ok (.iaload, 1) := by decide +kernel
theorem dX6_figure_66 : decode cX6_figure 66 = .ok (.iadd, 1) := by decide +kernel
theorem dX6_figure_67 : decode cX6_figure 67 = .ok (.iload_n 2, 1) := by decide +kernel
theorem dX6_figure_68 : decode cX6_figure 68 = .ok (.iastore, 1) := by decide +kernel
theorem dX6_figure_69 : decode cX6_figure 69 = .ok (.aload_n 0, 1) := by decide +kernel
theorem dX6_figure_70 : decode cX6_figure 70 = .ok (.getfield 7, 3) := by decide +kernel
theorem dX6_figure_73 : decode cX6_figure 73 = .ok (.iconst 1, 1) := by decide +kernel
theorem dX6_figure_74 : decode cX6_figure 74 = .ok (.dup2, 1) := by decide +kernel
theorem dX6_figure_75 : decode cX6_figure 75 = .ok (.iaload, 1) := by decide +kernel
theorem dX6_figure_76 : decode cX6_figure 76 = .ok (.iconst 1, 1) := by decide +kernel
theorem dX6_figure_77 : decode cX6_figure 77 = .ok (.iadd, 1) := by decide +kernel
theorem dX6_figure_78 : decode cX6_figure 78 = .ok (.iastore, 1) := by decide +kernel
theorem dX6_figure_79 : decode cX6_figure 79 = .ok (.aload_n 0, 1) := by decide +kernel
theorem dX6_figure_80 : decode cX6_figure 80 = .ok (.getfield 7, 3) := by decide +kernel
theorem dX6_figure_83 : decode cX6_figure 83 = .ok (.bipush 39, 2) := by decide +kernel
theorem dX6_figure_85 : decode cX6_figure 85 = .ok (.iconst 0, 1) := by decide +kernel
theorem dX6_figure_86 : decode cX6_figure 86 = .ok (.iastore, 1) := by decide +kernel
theorem dX6_figure_87 : decode cX6_figure 87 = .ok (.aload_n 0, 1) := by decide +kernel
theorem dX6_figure_88 : decode cX6_figure 88 = .ok (.getfield 7, 3) := by decide +kernel
theorem dX6_figure_91 : decode cX6_figure 91 = .ok (.iconst 1, 1) := by decide +kernel
theorem dX6_figure_92 : decode cX6_figure 92 = .ok (.iaload, 1) := by decide +kernel
theorem dX6_figure_93 : decode cX6_figure 93 = .ok (.iconst 1, 1) := by decide +kernel
theorem dX6_figure_94 : decode cX6_figure 94 = .ok (.isub, 1) := by decide +kernel
theorem dX6_figure_95 : decode cX6_figure 95 = .ok (.ireturn, 1) := by decide +kernel
theorem dX6_tune_0 : decode cX6_tune 0 = .ok (.aload_n 0, 1) := by decide +kernel
theorem dX6_tune_1 : decode cX6_tune 1 = .ok (.iload_n 1, 1) := by decide +kernel
theorem dX6_tune_2 : decode cX6_tune 2 = .ok (.invokevirtual 87, 3) := by decide +kernel
theorem dX6_tune_5 : decode cX6_tune 5 = .ok (.ifCond .ne 5, 3) := by decide +kernel
theorem dX6_tune_8 : decode cX6_tune 8 = .ok (.iconst (-1), 1) := by decide +kernel
theorem dX6_tune_9 : decode cX6_tune 9 = .ok (.ireturn, 1) := by decide +kernel
theorem dX6_tune_10 : decode cX6_tune 10 = .ok (.aload_n 0, 1) := by decide +kernel
theorem dX6_tune_11 : decode cX6_tune 11 = .ok (.getfield 7, 3) := by decide +kernel
theorem dX6_tune_14 : decode cX6_tune 14 = .ok (.iconst 2, 1) := by decide +kernel
theorem dX6_tune_15 : decode cX6_tune 15 = .ok (.iaload, 1) := by decide +kernel
theorem dX6_tune_16 : decode cX6_tune 16 = .ok (.bipush 16, 2) := by decide +kernel
theorem dX6_tune_18 : decode cX6_tune 18 = .ok (.if_icmp .ne 6, 3) := by decide +kernel
theorem dX6_tune_21 : decode cX6_tune 21 = .ok (.bipush (-3), 2) := by decide +kernel
theorem dX6_tune_23 : decode cX6_tune 23 = .ok (.ireturn, 1) := by decide +kernel
theorem dX6_tune_24 : decode cX6_tune 24 = .ok (.aload_n 0, 1) := by decide +kernel
theorem dX6_tune_25 : decode cX6_tune 25 = .ok (.getfield 7, 3) := by decide +kernel
theorem dX6_tune_28 : decode cX6_tune 28 = .ok (.bipush 23, 2) := by decide +kernel
theorem dX6_tune_30 : decode cX6_tune 30 = .ok (.aload_n 0, 1) := by decide +kernel
theorem dX6_tune_31 : decode cX6_tune 31 = .ok (.getfield 7, 3) := by decide +kernel
theorem dX6_tune_34 : decode cX6_tune 34 = .ok (.iconst 2, 1) := by decide +kernel
theorem dX6_tune_35 : decode cX6_tune 35 = .ok (.iaload, 1) := by decide +kernel
theorem dX6_tune_36 : decode cX6_tune 36 = .ok (.iadd, 1) := by decide +kernel
theorem dX6_tune_37 : decode cX6_tune 37 = .ok (.iload_n 1, 1) := by decide +kernel
theorem dX6_tune_38 : decode cX6_tune 38 = .ok (.iastore, 1) := by decide +kernel
theorem dX6_tune_39 : decode cX6_tune 39 = .ok (.aload_n 0, 1) := by decide +kernel
theorem dX6_tune_40 : decode cX6_tune 40 = .ok (.getfield 7, 3) := by decide +kernel
theorem dX6_tune_43 : decode cX6_tune 43 = .ok (.iconst 2, 1) := by decide +kernel
theorem dX6_tune_44 : decode cX6_tune 44 = .ok (.dup2, 1) := by decide +kernel
theorem dX6_tune_45 : decode cX6_tune 45 = .ok (.iaload, 1) := by decide +kernel
theorem dX6_tune_46 : decode cX6_tune 46 = .ok (.iconst 1, 1) := by decide +kernel
theorem dX6_tune_47 : decode cX6_tune 47 = .ok (.iadd, 1) := by decide +kernel
theorem dX6_tune_48 : decode cX6_tune 48 = .ok (.iastore, 1) := by decide +kernel
theorem dX6_tune_49 : decode cX6_tune 49 = .ok (.aload_n 0, 1) := by decide +kernel
theorem dX6_tune_50 : decode cX6_tune 50 = .ok (.getfield 7, 3) := by decide +kernel
theorem dX6_tune_53 : decode cX6_tune 53 = .ok (.bipush 39, 2) := by decide +kernel
theorem dX6_tune_55 : decode cX6_tune 55 = .ok (.iconst 0, 1) := by decide +kernel
theorem dX6_tune_56 : decode cX6_tune 56 = .ok (.iastore, 1) := by decide +kernel
theorem dX6_tune_57 : decode cX6_tune 57 = .ok (.aload_n 0, 1) := by decide +kernel
theorem dX6_tune_58 : decode cX6_tune 58 = .ok (.getfield 7, 3) := by decide +kernel
theorem dX6_tune_61 : decode cX6_tune 61 = .ok (.iconst 2, 1) := by decide +kernel
theorem dX6_tune_62 : decode cX6_tune 62 = .ok (.iaload, 1) := by decide +kernel
theorem dX6_tune_63 : decode cX6_tune 63 = .ok (.ireturn, 1) := by decide +kernel
theorem dX6_hush_0 : decode cX6_hush 0 = .ok (.aload_n 0, 1) := by decide +kernel
theorem dX6_hush_1 : decode cX6_hush 1 = .ok (.getfield 7, 3) := by decide +kernel
theorem dX6_hush_4 : decode cX6_hush 4 = .ok (.iconst 2, 1) := by decide +kernel
theorem dX6_hush_5 : decode cX6_hush 5 = .ok (.iaload, 1) := by decide +kernel
theorem dX6_hush_6 : decode cX6_hush 6 = .ok (.istore_n 1, 1) := by decide +kernel
theorem dX6_hush_7 : decode cX6_hush 7 = .ok (.aload_n 0, 1) := by decide +kernel
theorem dX6_hush_8 : decode cX6_hush 8 = .ok (.getfield 7, 3) := by decide +kernel
theorem dX6_hush_11 : decode cX6_hush 11 = .ok (.iconst 2, 1) := by decide +kernel
theorem dX6_hush_12 : decode cX6_hush 12 = .ok (.iconst 0, 1) := by decide +kernel
theorem dX6_hush_13 : decode cX6_hush 13 = .ok (.iastore, 1) := by decide +kernel
theorem dX6_hush_14 : decode cX6_hush 14 = .ok (.aload_n 0, 1) := by decide +kernel
theorem dX6_hush_15 : decode cX6_hush 15 = .ok (.getfield 7, 3) := by decide +kernel
theorem dX6_hush_18 : decode cX6_hush 18 = .ok (.bipush 39, 2) := by decide +kernel
theorem dX6_hush_20 : decode cX6_hush 20 = .ok (.iconst 0, 1) := by decide +kernel
theorem dX6_hush_21 : decode cX6_hush 21 = .ok (.iastore, 1) := by decide +kernel
theorem dX6_hush_22 : decode cX6_hush 22 = .ok (.iload_n 1, 1) := by decide +kernel
theorem dX6_hush_23 : decode cX6_hush 23 = .ok (.ireturn, 1) := by decide +kernel
theorem dX6_of_0 : decode cX6_of 0 = .ok (.aload_n 0, 1) := by decide +kernel
theorem dX6_of_1 : decode cX6_of 1 = .ok (.iload_n 1, 1) := by decide +kernel
theorem dX6_of_2 : decode cX6_of 2 = .ok (.invokevirtual 87, 3) := by decide +kernel
theorem dX6_of_5 : decode cX6_of 5 = .ok (.ifCond .ne 5, 3) := by decide +kernel
theorem dX6_of_8 : decode cX6_of 8 = .ok (.iconst (-1), 1) := by decide +kernel
theorem dX6_of_9 : decode cX6_of 9 = .ok (.ireturn, 1) := by decide +kernel
theorem dX6_of_10 : decode cX6_of 10 = .ok (.iload_n 2, 1) := by decide +kernel
theorem dX6_of_11 : decode cX6_of 11 = .ok (.tableswitch 71 0 4 #[33, 43, 53, 59, 65], 33) := by decide +kernel
theorem dX6_of_44 : decode cX6_of 44 = .ok (.aload_n 0, 1) := by decide +kernel
theorem dX6_of_45 : decode cX6_of 45 = .ok (.getfield 7, 3) := by decide +kernel
theorem dX6_of_48 : decode cX6_of 48 = .ok (.bipush 13, 2) := by decide +kernel
theorem dX6_of_50 : decode cX6_of 50 = .ok (.iload_n 1, 1) := by decide +kernel
theorem dX6_of_51 : decode cX6_of 51 = .ok (.iadd, 1) := by decide +kernel
theorem dX6_of_52 : decode cX6_of 52 = .ok (.iaload, 1) := by decide +kernel
theorem dX6_of_53 : decode cX6_of 53 = .ok (.ireturn, 1) := by decide +kernel
theorem dX6_of_54 : decode cX6_of 54 = .ok (.aload_n 0, 1) := by decide +kernel
theorem dX6_of_55 : decode cX6_of 55 = .ok (.getfield 7, 3) := by decide +kernel
theorem dX6_of_58 : decode cX6_of 58 = .ok (.bipush 18, 2) := by decide +kernel
theorem dX6_of_60 : decode cX6_of 60 = .ok (.iload_n 1, 1) := by decide +kernel
theorem dX6_of_61 : decode cX6_of 61 = .ok (.iadd, 1) := by decide +kernel
theorem dX6_of_62 : decode cX6_of 62 = .ok (.iaload, 1) := by decide +kernel
theorem dX6_of_63 : decode cX6_of 63 = .ok (.ireturn, 1) := by decide +kernel
theorem dX6_of_64 : decode cX6_of 64 = .ok (.aload_n 0, 1) := by decide +kernel
theorem dX6_of_65 : decode cX6_of 65 = .ok (.iload_n 1, 1) := by decide +kernel
theorem dX6_of_66 : decode cX6_of 66 = .ok (.invokevirtual 90, 3) := by decide +kernel
theorem dX6_of_69 : decode cX6_of 69 = .ok (.ireturn, 1) := by decide +kernel
theorem dX6_of_70 : decode cX6_of 70 = .ok (.aload_n 0, 1) := by decide +kernel
theorem dX6_of_71 : decode cX6_of 71 = .ok (.iload_n 1, 1) := by decide +kernel
theorem dX6_of_72 : decode cX6_of 72 = .ok (.invokevirtual 94, 3) := by decide +kernel
theorem dX6_of_75 : decode cX6_of 75 = .ok (.ireturn, 1) := by decide +kernel
theorem dX6_of_76 : decode cX6_of 76 = .ok (.aload_n 0, 1) := by decide +kernel
theorem dX6_of_77 : decode cX6_of 77 = .ok (.iload_n 1, 1) := by decide +kernel
theorem dX6_of_78 : decode cX6_of 78 = .ok (.invokevirtual 97, 3) := by decide +kernel
theorem dX6_of_81 : decode cX6_of 81 = .ok (.ireturn, 1) := by decide +kernel
theorem dX6_of_82 : decode cX6_of 82 = .ok (.iconst (-1), 1) := by decide +kernel
theorem dX6_of_83 : decode cX6_of 83 = .ok (.ireturn, 1) := by decide +kernel
theorem dX6_leads_0 : decode cX6_leads 0 = .ok (.aload_n 0, 1) := by decide +kernel
theorem dX6_leads_1 : decode cX6_leads 1 = .ok (.iload_n 1, 1) := by decide +kernel
theorem dX6_leads_2 : decode cX6_leads 2 = .ok (.invokevirtual 87, 3) := by decide +kernel
theorem dX6_leads_5 : decode cX6_leads 5 = .ok (.ifCond .eq 19, 3) := by decide +kernel
theorem dX6_leads_8 : decode cX6_leads 8 = .ok (.iload_n 2, 1) := by decide +kernel
theorem dX6_leads_9 : decode cX6_leads 9 = .ok (.invokestatic 74, 3) := by decide +kernel
theorem dX6_leads_12 : decode cX6_leads 12 = .ok (.ifCond .eq 12, 3) := by decide +kernel
theorem dX6_leads_15 : decode cX6_leads 15 = .ok (.aload_n 0, 1) := by decide +kernel
theorem dX6_leads_16 : decode cX6_leads 16 = .ok (.iload_n 1, 1) := by decide +kernel
theorem dX6_leads_17 : decode cX6_leads 17 = .ok (.iload_n 2, 1) := by decide +kernel
theorem dX6_leads_18 : decode cX6_leads 18 = .ok (.invokevirtual 67, 3) := by decide +kernel
theorem dX6_leads_21 : decode cX6_leads 21 = .ok (.goto 4, 3) := by decide +kernel
theorem dX6_leads_24 : decode cX6_leads 24 = .ok (.iconst (-1), 1) := by decide +kernel
theorem dX6_leads_25 : decode cX6_leads 25 = .ok (.ireturn, 1) := by decide +kernel
theorem dX6_at_0 : decode cX6_at 0 = .ok (.aload_n 0, 1) := by decide +kernel
theorem dX6_at_1 : decode cX6_at 1 = .ok (.iload_n 1, 1) := by decide +kernel
theorem dX6_at_2 : decode cX6_at 2 = .ok (.invokevirtual 100, 3) := by decide +kernel
theorem dX6_at_5 : decode cX6_at 5 = .ok (.ifCond .eq 14, 3) := by decide +kernel
theorem dX6_at_8 : decode cX6_at 8 = .ok (.aload_n 0, 1) := by decide +kernel
theorem dX6_at_9 : decode cX6_at 9 = .ok (.getfield 7, 3) := by decide +kernel
theorem dX6_at_12 : decode cX6_at 12 = .ok (.iconst 5, 1) := by decide +kernel
theorem dX6_at_13 : decode cX6_at 13 = .ok (.iload_n 1, 1) := by decide +kernel
theorem dX6_at_14 : decode cX6_at 14 = .ok (.iadd, 1) := by decide +kernel
theorem dX6_at_15 : decode cX6_at 15 = .ok (.iaload, 1) := by decide +kernel
theorem dX6_at_16 : decode cX6_at 16 = .ok (.goto 4, 3) := by decide +kernel
theorem dX6_at_19 : decode cX6_at 19 = .ok (.iconst (-1), 1) := by decide +kernel
theorem dX6_at_20 : decode cX6_at 20 = .ok (.ireturn, 1) := by decide +kernel
theorem dX6_seenOf_0 : decode cX6_seenOf 0 = .ok (.iconst 0, 1) := by decide +kernel
theorem dX6_seenOf_1 : decode cX6_seenOf 1 = .ok (.istore_n 2, 1) := by decide +kernel
theorem dX6_seenOf_2 : decode cX6_seenOf 2 = .ok (.bipush (-3), 2) := by decide +kernel
theorem dX6_seenOf_4 : decode cX6_seenOf 4 = .ok (.istore_n 3, 1) := by decide +kernel
theorem dX6_seenOf_5 : decode cX6_seenOf 5 = .ok (.iload_n 3, 1) := by decide +kernel
theorem dX6_seenOf_6 : decode cX6_seenOf 6 = .ok (.iconst 3, 1) := by decide +kernel
theorem dX6_seenOf_7 : decode cX6_seenOf 7 = .ok (.if_icmp .gt 86, 3) := by decide +kernel
theorem dX6_seenOf_10 : decode cX6_seenOf 10 = .ok (.iload_n 1, 1) := by decide +kernel
theorem dX6_seenOf_11 : decode cX6_seenOf 11 = .ok (.iload_n 3, 1) := by decide +kernel
theorem dX6_seenOf_12 : decode cX6_seenOf 12 = .ok (.iadd, 1) := by decide +kernel
theorem dX6_seenOf_13 : decode cX6_seenOf 13 = .ok (.bipush 8, 2) := by decide +kernel
theorem dX6_seenOf_15 : decode cX6_seenOf 15 = .ok (.iadd, 1) := by decide +kernel
theorem dX6_seenOf_16 : decode cX6_seenOf 16 = .ok (.bipush 8, 2) := by decide +kernel
theorem dX6_seenOf_18 : decode cX6_seenOf 18 = .ok (.irem, 1) := by decide +kernel
theorem dX6_seenOf_19 : decode cX6_seenOf 19 = .ok (.istore 4, 2) := by decide +kernel
theorem dX6_seenOf_21 : decode cX6_seenOf 21 = .ok (.iload 4, 2) := by decide +kernel
theorem dX6_seenOf_23 : decode cX6_seenOf 23 = .ok (.iload_n 3, 1) := by decide +kernel
theorem dX6_seenOf_24 : decode cX6_seenOf 24 = .ok (.ifCond .le 8, 3) := by decide +kernel
theorem dX6_seenOf_27 : decode cX6_seenOf 27 = .ok (.bipush 7, 2) := by decide +kernel
theorem dX6_seenOf_29 : decode cX6_seenOf 29 = .ok (.goto 4, 3) := by decide +kernel
theorem dX6_seenOf_32 : decode cX6_seenOf 32 = .ok (.iconst 1, 1) := by decide +kernel
theorem dX6_seenOf_33 : decode cX6_seenOf 33 = .ok (.iadd, 1) := by decide +kernel
theorem dX6_seenOf_34 : decode cX6_seenOf 34 = .ok (.bipush 8, 2) := by decide +kernel
theorem dX6_seenOf_36 : decode cX6_seenOf 36 = .ok (.irem, 1) := by decide +kernel
theorem dX6_seenOf_37 : decode cX6_seenOf 37 = .ok (.istore 5, 2) := by decide +kernel
theorem dX6_seenOf_39 : decode cX6_seenOf 39 = .ok (.iload_n 3, 1) := by decide +kernel
theorem dX6_seenOf_40 : decode cX6_seenOf 40 = .ok (.iconst 1, 1) := by decide +kernel
theorem dX6_seenOf_41 : decode cX6_seenOf 41 = .ok (.if_icmp .gt 8, 3) := by decide +kernel
theorem dX6_seenOf_44 : decode cX6_seenOf 44 = .ok (.iload_n 3, 1) := by decide +kernel
theorem dX6_seenOf_45 : decode cX6_seenOf 45 = .ok (.iconst (-1), 1) := by decide +kernel
theorem dX6_seenOf_46 : decode cX6_seenOf 46 = .ok (.if_icmp .ge 16, 3) := by decide +kernel
theorem dX6_seenOf_49 : decode cX6_seenOf 49 = .ok (.iload_n 0, 1) := by decide +kernel
theorem dX6_seenOf_50 : decode cX6_seenOf 50 = .ok (.iload 5, 2) := by decide +kernel
theorem dX6_seenOf_52 : decode cX6_seenOf 52 = .ok (.invokestatic 82, 3) := by decide +kernel
theorem dX6_seenOf_55 : decode cX6_seenOf 55 = .ok (.ifCond .eq 7, 3) := by decide +kernel
theorem dX6_seenOf_58 : decode cX6_seenOf 58 = .ok (.iconst 1, 1) := by decide +kernel
theorem dX6_seenOf_59 : decode cX6_seenOf 59 = .ok (.goto 4, 3) := by decide +kernel
theorem dX6_seenOf_62 : decode cX6_seenOf 62 = .ok (.iconst 0, 1) := by decide +kernel
theorem dX6_seenOf_63 : decode cX6_seenOf 63 = .ok (.istore 6, 2) := by decide +kernel
theorem dX6_seenOf_65 : decode cX6_seenOf 65 = .ok (.iload_n 2, 1) := by decide +kernel
theorem dX6_seenOf_66 : decode cX6_seenOf 66 = .ok (.iload_n 0, 1) := by decide +kernel
theorem dX6_seenOf_67 : decode cX6_seenOf 67 = .ok (.iload 4, 2) := by decide +kernel
theorem dX6_seenOf_69 : decode cX6_seenOf 69 = .ok (.invokestatic 82, 3) := by decide +kernel
theorem dX6_seenOf_72 : decode cX6_seenOf 72 = .ok (.ifCond .eq 12, 3) := by decide +kernel
theorem dX6_seenOf_75 : decode cX6_seenOf 75 = .ok (.iload 6, 2) := by decide +kernel
theorem dX6_seenOf_77 : decode cX6_seenOf 77 = .ok (.ifCond .ne 7, 3) := by decide +kernel
theorem dX6_seenOf_80 : decode cX6_seenOf 80 = .ok (.iconst 1, 1) := by decide +kernel
theorem dX6_seenOf_81 : decode cX6_seenOf 81 = .ok (.goto 4, 3) := by decide +kernel
theorem dX6_seenOf_84 : decode cX6_seenOf 84 = .ok (.iconst 0, 1) := by decide +kernel
theorem dX6_seenOf_85 : decode cX6_seenOf 85 = .ok (.iadd, 1) := by decide +kernel
theorem dX6_seenOf_86 : decode cX6_seenOf 86 = .ok (.istore_n 2, 1) := by decide +kernel
theorem dX6_seenOf_87 : decode cX6_seenOf 87 = .ok (.iinc 3 1, 3) := by decide +kernel
theorem dX6_seenOf_90 : decode cX6_seenOf 90 = .ok (.goto (-85), 3) := by decide +kernel
theorem dX6_seenOf_93 : decode cX6_seenOf 93 = .ok (.iload_n 2, 1) := by decide +kernel
theorem dX6_seenOf_94 : decode cX6_seenOf 94 = .ok (.ireturn, 1) := by decide +kernel
theorem dX6_seen_0 : decode cX6_seen 0 = .ok (.iload_n 1, 1) := by decide +kernel
theorem dX6_seen_1 : decode cX6_seen 1 = .ok (.invokestatic 74, 3) := by decide +kernel
theorem dX6_seen_4 : decode cX6_seen 4 = .ok (.ifCond .eq 14, 3) := by decide +kernel
theorem dX6_seen_7 : decode cX6_seen 7 = .ok (.aload_n 0, 1) := by decide +kernel
theorem dX6_seen_8 : decode cX6_seen 8 = .ok (.invokevirtual 78, 3) := by decide +kernel
theorem dX6_seen_11 : decode cX6_seen 11 = .ok (.iload_n 1, 1) := by decide +kernel
theorem dX6_seen_12 : decode cX6_seen 12 = .ok (.invokestatic 103, 3) := by decide +kernel
theorem dX6_seen_15 : decode cX6_seen 15 = .ok (.goto 4, 3) := by decide +kernel
theorem dX6_seen_18 : decode cX6_seen 18 = .ok (.iconst (-1), 1) := by decide +kernel
theorem dX6_seen_19 : decode cX6_seen 19 = .ok (.ireturn, 1) := by decide +kernel
theorem dX6_type_0 : decode cX6_type 0 = .ok (.iload_n 1, 1) := by decide +kernel
theorem dX6_type_1 : decode cX6_type 1 = .ok (.i2l, 1) := by decide +kernel
theorem dX6_type_2 : decode cX6_type 2 = .ok (.ldc2_w 106, 3) := by decide +kernel
theorem dX6_type_5 : decode cX6_type 5 = .ok (.ldc2_w 108, 3) := by decide +kernel
theorem dX6_type_8 : decode cX6_type 8 = .ok (.invokestatic 52, 3) := by decide +kernel
theorem dX6_type_11 : decode cX6_type 11 = .ok (.ifCond .ne 5, 3) := by decide +kernel
theorem dX6_type_14 : decode cX6_type 14 = .ok (.iconst (-1), 1) := by decide +kernel
theorem dX6_type_15 : decode cX6_type 15 = .ok (.ireturn, 1) := by decide +kernel
theorem dX6_type_16 : decode cX6_type 16 = .ok (.aload_n 0, 1) := by decide +kernel
theorem dX6_type_17 : decode cX6_type 17 = .ok (.getfield 110, 3) := by decide +kernel
theorem dX6_type_20 : decode cX6_type 20 = .ok (.bipush 60, 2) := by decide +kernel
theorem dX6_type_22 : decode cX6_type 22 = .ok (.if_icmp .ne 6, 3) := by decide +kernel
theorem dX6_type_25 : decode cX6_type 25 = .ok (.bipush (-3), 2) := by decide +kernel
theorem dX6_type_27 : decode cX6_type 27 = .ok (.ireturn, 1) := by decide +kernel
theorem dX6_type_28 : decode cX6_type 28 = .ok (.aload_n 0, 1) := by decide +kernel
theorem dX6_type_29 : decode cX6_type 29 = .ok (.getfield 13, 3) := by decide +kernel
theorem dX6_type_32 : decode cX6_type 32 = .ok (.aload_n 0, 1) := by decide +kernel
theorem dX6_type_33 : decode cX6_type 33 = .ok (.getfield 110, 3) := by decide +kernel
theorem dX6_type_36 : decode cX6_type 36 = .ok (.iload_n 1, 1) := by decide +kernel
theorem dX6_type_37 : decode cX6_type 37 = .ok (.iastore, 1) := by decide +kernel
theorem dX6_type_38 : decode cX6_type 38 = .ok (.aload_n 0, 1) := by decide +kernel
theorem dX6_type_39 : decode cX6_type 39 = .ok (.dup, 1) := by decide +kernel
theorem dX6_type_40 : decode cX6_type 40 = .ok (.getfield 110, 3) := by decide +kernel
theorem dX6_type_43 : decode cX6_type 43 = .ok (.iconst 1, 1) := by decide +kernel
theorem dX6_type_44 : decode cX6_type 44 = .ok (.iadd, 1) := by decide +kernel
theorem dX6_type_45 : decode cX6_type 45 = .ok (.putfield 110, 3) := by decide +kernel
theorem dX6_type_48 : decode cX6_type 48 = .ok (.aload_n 0, 1) := by decide +kernel
theorem dX6_type_49 : decode cX6_type 49 = .ok (.getfield 110, 3) := by decide +kernel
theorem dX6_type_52 : decode cX6_type 52 = .ok (.ireturn, 1) := by decide +kernel
theorem dX6_peek_0 : decode cX6_peek 0 = .ok (.aload_n 0, 1) := by decide +kernel
theorem dX6_peek_1 : decode cX6_peek 1 = .ok (.getfield 114, 3) := by decide +kernel
theorem dX6_peek_4 : decode cX6_peek 4 = .ok (.aload_n 0, 1) := by decide +kernel
theorem dX6_peek_5 : decode cX6_peek 5 = .ok (.getfield 110, 3) := by decide +kernel
theorem dX6_peek_8 : decode cX6_peek 8 = .ok (.if_icmp .ge 30, 3) := by decide +kernel
theorem dX6_peek_11 : decode cX6_peek 11 = .ok (.aload_n 0, 1) := by decide +kernel
theorem dX6_peek_12 : decode cX6_peek 12 = .ok (.getfield 13, 3) := by decide +kernel
theorem dX6_peek_15 : decode cX6_peek 15 = .ok (.aload_n 0, 1) := by decide +kernel
theorem dX6_peek_16 : decode cX6_peek 16 = .ok (.getfield 114, 3) := by decide +kernel
theorem dX6_peek_19 : decode cX6_peek 19 = .ok (.iaload, 1) := by decide +kernel
theorem dX6_peek_20 : decode cX6_peek 20 = .ok (.bipush 32, 2) := by decide +kernel
theorem dX6_peek_22 : decode cX6_peek 22 = .ok (.if_icmp .ne 16, 3) := by decide +kernel
theorem dX6_peek_25 : decode cX6_peek 25 = .ok (.aload_n 0, 1) := by decide +kernel
theorem dX6_peek_26 : decode cX6_peek 26 = .ok (.dup, 1) := by decide +kernel
theorem dX6_peek_27 : decode cX6_peek 27 = .ok (.getfield 114, 3) := by decide +kernel
theorem dX6_peek_30 : decode cX6_peek 30 = .ok (.iconst 1, 1) := by decide +kernel
theorem dX6_peek_31 : decode cX6_peek 31 = .ok (.iadd, 1) := by decide +kernel
theorem dX6_peek_32 : decode cX6_peek 32 = .ok (.putfield 114, 3) := by decide +kernel
theorem dX6_peek_35 : decode cX6_peek 35 = .ok (.goto (-35), 3) := by decide +kernel
theorem dX6_peek_38 : decode cX6_peek 38 = .ok (.aload_n 0, 1) := by decide +kernel
theorem dX6_peek_39 : decode cX6_peek 39 = .ok (.getfield 114, 3) := by decide +kernel
theorem dX6_peek_42 : decode cX6_peek 42 = .ok (.aload_n 0, 1) := by decide +kernel
theorem dX6_peek_43 : decode cX6_peek 43 = .ok (.getfield 110, 3) := by decide +kernel
theorem dX6_peek_46 : decode cX6_peek 46 = .ok (.if_icmp .ge 15, 3) := by decide +kernel
theorem dX6_peek_49 : decode cX6_peek 49 = .ok (.aload_n 0, 1) := by decide +kernel
theorem dX6_peek_50 : decode cX6_peek 50 = .ok (.getfield 13, 3) := by decide +kernel
theorem dX6_peek_53 : decode cX6_peek 53 = .ok (.aload_n 0, 1) := by decide +kernel
theorem dX6_peek_54 : decode cX6_peek 54 = .ok (.getfield 114, 3) := by decide +kernel
theorem dX6_peek_57 : decode cX6_peek 57 = .ok (.iaload, 1) := by decide +kernel
theorem dX6_peek_58 : decode cX6_peek 58 = .ok (.goto 4, 3) := by decide +kernel
theorem dX6_peek_61 : decode cX6_peek 61 = .ok (.iconst 0, 1) := by decide +kernel
theorem dX6_peek_62 : decode cX6_peek 62 = .ok (.ireturn, 1) := by decide +kernel
theorem dX6_takes_0 : decode cX6_takes 0 = .ok (.aload_n 0, 1) := by decide +kernel
theorem dX6_takes_1 : decode cX6_takes 1 = .ok (.invokevirtual 117, 3) := by decide +kernel
theorem dX6_takes_4 : decode cX6_takes 4 = .ok (.iload_n 1, 1) := by decide +kernel
theorem dX6_takes_5 : decode cX6_takes 5 = .ok (.if_icmp .eq 5, 3) := by decide +kernel
theorem dX6_takes_8 : decode cX6_takes 8 = .ok (.iconst 0, 1) := by decide +kernel
theorem dX6_takes_9 : decode cX6_takes 9 = .ok (.ireturn, 1) := by decide +kernel
theorem dX6_takes_10 : decode cX6_takes 10 = .ok (.aload_n 0, 1) := by decide +kernel
theorem dX6_takes_11 : decode cX6_takes 11 = .ok (.dup, 1) := by decide +kernel
theorem dX6_takes_12 : decode cX6_takes 12 = .ok (.getfield 114, 3) := by decide +kernel
theorem dX6_takes_15 : decode cX6_takes 15 = .ok (.iconst 1, 1) := by decide +kernel
theorem dX6_takes_16 : decode cX6_takes 16 = .ok (.iadd, 1) := by decide +kernel
theorem dX6_takes_17 : decode cX6_takes 17 = .ok (.putfield 114, 3) := by decide +kernel
theorem dX6_takes_20 : decode cX6_takes 20 = .ok (.iconst 1, 1) := by decide +kernel
theorem dX6_takes_21 : decode cX6_takes 21 = .ok (.ireturn, 1) := by decide +kernel
theorem dX6_kindOf_0 : decode cX6_kindOf 0 = .ok (.iload_n 0, 1) := by decide +kernel
theorem dX6_kindOf_1 : decode cX6_kindOf 1 = .ok (.bipush 114, 2) := by decide +kernel
theorem dX6_kindOf_3 : decode cX6_kindOf 3 = .ok (.if_icmp .ne 7, 3) := by decide +kernel
theorem dX6_kindOf_6 : decode cX6_kindOf 6 = .ok (.iconst 0, 1) := by decide +kernel
theorem dX6_kindOf_7 : decode cX6_kindOf 7 = .ok (.goto 44, 3) := by decide +kernel
theorem dX6_kindOf_10 : decode cX6_kindOf 10 = .ok (.iload_n 0, 1) := by decide +kernel
theorem dX6_kindOf_11 : decode cX6_kindOf 11 = .ok (.bipush 101, 2) := by decide +kernel
theorem dX6_kindOf_13 : decode cX6_kindOf 13 = .ok (.if_icmp .ne 7, 3) := by decide +kernel
theorem dX6_kindOf_16 : decode cX6_kindOf 16 = .ok (.iconst 1, 1) := by decide +kernel
theorem dX6_kindOf_17 : decode cX6_kindOf 17 = .ok (.goto 34, 3) := by decide +kernel
theorem dX6_kindOf_20 : decode cX6_kindOf 20 = .ok (.iload_n 0, 1) := by decide +kernel
theorem dX6_kindOf_21 : decode cX6_kindOf 21 = .ok (.bipush 109, 2) := by decide +kernel
theorem dX6_kindOf_23 : decode cX6_kindOf 23 = .ok (.if_icmp .ne 7, 3) := by decide +kernel
theorem dX6_kindOf_26 : decode cX6_kindOf 26 = .ok (.iconst 2, 1) := by decide +kernel
theorem dX6_kindOf_27 : decode cX6_kindOf 27 = .ok (.goto 24, 3) := by decide +kernel
theorem dX6_kindOf_30 : decode cX6_kindOf 30 = .ok (.iload_n 0, 1) := by decide +kernel
theorem dX6_kindOf_31 : decode cX6_kindOf 31 = .ok (.bipush 104, 2) := by decide +kernel
theorem dX6_kindOf_33 : decode cX6_kindOf 33 = .ok (.if_icmp .ne 7, 3) := by decide +kernel
theorem dX6_kindOf_36 : decode cX6_kindOf 36 = .ok (.iconst 3, 1) := by decide +kernel
theorem dX6_kindOf_37 : decode cX6_kindOf 37 = .ok (.goto 14, 3) := by decide +kernel
theorem dX6_kindOf_40 : decode cX6_kindOf 40 = .ok (.iload_n 0, 1) := by decide +kernel
theorem dX6_kindOf_41 : decode cX6_kindOf 41 = .ok (.bipush 99, 2) := by decide +kernel
theorem dX6_kindOf_43 : decode cX6_kindOf 43 = .ok (.if_icmp .ne 7, 3) := by decide +kernel
theorem dX6_kindOf_46 : decode cX6_kindOf 46 = .ok (.iconst 4, 1) := by decide +kernel
theorem dX6_kindOf_47 : decode cX6_kindOf 47 = .ok (.goto 4, 3) := by decide +kernel
theorem dX6_kindOf_50 : decode cX6_kindOf 50 = .ok (.iconst (-1), 1) := by decide +kernel
theorem dX6_kindOf_51 : decode cX6_kindOf 51 = .ok (.ireturn, 1) := by decide +kernel
theorem dX6_takesPlaces_0 : decode cX6_takesPlaces 0 = .ok (.iconst 0, 1) := by decide +kernel
theorem dX6_takesPlaces_1 : decode cX6_takesPlaces 1 = .ok (.istore_n 1, 1) := by decide +kernel
theorem dX6_takesPlaces_2 : decode cX6_takesPlaces 2 = .ok (.iload_n 1, 1) := by decide +kernel
theorem dX6_takesPlaces_3 : decode cX6_takesPlaces 3 = .ok (.bipush 8, 2) := by decide +kernel
theorem dX6_takesPlaces_5 : decode cX6_takesPlaces 5 = .ok (.if_icmp .ge 74, 3) := by decide +kernel
theorem dX6_takesPlaces_8 : decode cX6_takesPlaces 8 = .ok (.aload_n 0, 1) := by decide +kernel
theorem dX6_takesPlaces_9 : decode cX6_takesPlaces 9 = .ok (.invokevirtual 117, 3) := by decide +kernel
theorem dX6_takesPlaces_12 : decode cX6_takesPlaces 12 = .ok (.istore_n 2, 1) := by decide +kernel
theorem dX6_takesPlaces_13 : decode cX6_takesPlaces 13 = .ok (.iload_n 2, 1) := by decide +kernel
theorem dX6_takesPlaces_14 : decode cX6_takesPlaces 14 = .ok (.bipush 46, 2) := by decide +kernel
theorem dX6_takesPlaces_16 : decode cX6_takesPlaces 16 = .ok (.if_icmp .eq 11, 3) := by decide +kernel
theorem dX6_takesPlaces_19 : decode cX6_takesPlaces 19 = .ok (.iload_n 2, 1) := by decide +kernel
theorem dX6_takesPlaces_20 : decode cX6_takesPlaces 20 = .ok (.bipush 42, 2) := by decide +kernel
theorem dX6_takesPlaces_22 : decode cX6_takesPlaces 22 = .ok (.if_icmp .eq 5, 3) := by decide +kernel
theorem dX6_takesPlaces_25 : decode cX6_takesPlaces 25 = .ok (.iconst 0, 1) := by decide +kernel
theorem dX6_takesPlaces_26 : decode cX6_takesPlaces 26 = .ok (.ireturn, 1) := by decide +kernel
theorem dX6_takesPlaces_27 : decode cX6_takesPlaces 27 = .ok (.aload_n 0, 1) := by decide +kernel
theorem dX6_takesPlaces_28 : decode cX6_takesPlaces 28 = .ok (.dup, 1) := by decide +kernel
theorem dX6_takesPlaces_29 : decode cX6_takesPlaces 29 = .ok (.getfield 114, 3) := by decide +kernel
theorem dX6_takesPlaces_32 : decode cX6_takesPlaces 32 = .ok (.iconst 1, 1) := by decide +kernel
theorem dX6_takesPlaces_33 : decode cX6_takesPlaces 33 = .ok (.iadd, 1) := by decide +kernel
theorem dX6_takesPlaces_34 : decode cX6_takesPlaces 34 = .ok (.putfield 114, 3) := by decide +kernel
theorem dX6_takesPlaces_37 : decode cX6_takesPlaces 37 = .ok (.iload_n 2, 1) := by decide +kernel
theorem dX6_takesPlaces_38 : decode cX6_takesPlaces 38 = .ok (.bipush 42, 2) := by decide +kernel
theorem dX6_takesPlaces_40 : decode cX6_takesPlaces 40 = .ok (.if_icmp .ne 33, 3) := by decide +kernel
theorem dX6_takesPlaces_43 : decode cX6_takesPlaces 43 = .ok (.aload_n 0, 1) := by decide +kernel
theorem dX6_takesPlaces_44 : decode cX6_takesPlaces 44 = .ok (.getfield 7, 3) := by decide +kernel
theorem dX6_takesPlaces_47 : decode cX6_takesPlaces 47 = .ok (.sipush 245, 3) := by decide +kernel
theorem dX6_takesPlaces_50 : decode cX6_takesPlaces 50 = .ok (.aload_n 0, 1) := by decide +kernel
theorem dX6_takesPlaces_51 : decode cX6_takesPlaces 51 = .ok (.getfield 7, 3) := by decide +kernel
theorem dX6_takesPlaces_54 : decode cX6_takesPlaces 54 = .ok (.sipush 240, 3) := by decide +kernel
theorem dX6_takesPlaces_57 : decode cX6_takesPlaces 57 = .ok (.iaload, 1) := by decide +kernel
theorem dX6_takesPlaces_58 : decode cX6_takesPlaces 58 = .ok (.iadd, 1) := by decide +kernel
theorem dX6_takesPlaces_59 : decode cX6_takesPlaces 59 = .ok (.iload_n 1, 1) := by decide +kernel
theorem dX6_takesPlaces_60 : decode cX6_takesPlaces 60 = .ok (.iastore, 1) := by decide +kernel
theorem dX6_takesPlaces_61 : decode cX6_takesPlaces 61 = .ok (.aload_n 0, 1) := by decide +kernel
theorem dX6_takesPlaces_62 : decode cX6_takesPlaces 62 = .ok (.getfield 7, 3) := by decide +kernel
theorem dX6_takesPlaces_65 : decode cX6_takesPlaces 65 = .ok (.sipush 240, 3) := by decide +kernel
theorem dX6_takesPlaces_68 : decode cX6_takesPlaces 68 = .ok (.dup2, 1) := by decide +kernel
theorem dX6_takesPlaces_69 : decode cX6_takesPlaces 69 = .ok (.iaload, 1) := by decide +kernel
theorem dX6_takesPlaces_70 : decode cX6_takesPlaces 70 = .ok (.iconst 1, 1) := by decide +kernel
theorem dX6_takesPlaces_71 : decode cX6_takesPlaces 71 = .ok (.iadd, 1) := by decide +kernel
theorem dX6_takesPlaces_72 : decode cX6_takesPlaces 72 = .ok (.iastore, 1) := by decide +kernel
theorem dX6_takesPlaces_73 : decode cX6_takesPlaces 73 = .ok (.iinc 1 1, 3) := by decide +kernel
theorem dX6_takesPlaces_76 : decode cX6_takesPlaces 76 = .ok (.goto (-74), 3) := by decide +kernel
theorem dX6_takesPlaces_79 : decode cX6_takesPlaces 79 = .ok (.iconst 1, 1) := by decide +kernel
theorem dX6_takesPlaces_80 : decode cX6_takesPlaces 80 = .ok (.ireturn, 1) := by decide +kernel
theorem dX6_takesFigure_0 : decode cX6_takesFigure 0 = .ok (.aload_n 0, 1) := by decide +kernel
theorem dX6_takesFigure_1 : decode cX6_takesFigure 1 = .ok (.invokevirtual 117, 3) := by decide +kernel
theorem dX6_takesFigure_4 : decode cX6_takesFigure 4 = .ok (.invokestatic 120, 3) := by decide +kernel
theorem dX6_takesFigure_7 : decode cX6_takesFigure 7 = .ok (.istore_n 1, 1) := by decide +kernel
theorem dX6_takesFigure_8 : decode cX6_takesFigure 8 = .ok (.iload_n 1, 1) := by decide +kernel
theorem dX6_takesFigure_9 : decode cX6_takesFigure 9 = .ok (.ifCond .ge 5, 3) := by decide +kernel
theorem dX6_takesFigure_12 : decode cX6_takesFigure 12 = .ok (.iconst 0, 1) := by decide +kernel
theorem dX6_takesFigure_13 : decode cX6_takesFigure 13 = .ok (.ireturn, 1) := by decide +kernel
theorem dX6_takesFigure_14 : decode cX6_takesFigure 14 = .ok (.aload_n 0, 1) := by decide +kernel
theorem dX6_takesFigure_15 : decode cX6_takesFigure 15 = .ok (.dup, 1) := by decide +kernel
theorem dX6_takesFigure_16 : decode cX6_takesFigure 16 = .ok (.getfield 114, 3) := by decide +kernel
theorem dX6_takesFigure_19 : decode cX6_takesFigure 19 = .ok (.iconst 1, 1) := by decide +kernel
theorem dX6_takesFigure_20 : decode cX6_takesFigure 20 = .ok (.iadd, 1) := by decide +kernel
theorem dX6_takesFigure_21 : decode cX6_takesFigure 21 = .ok (.putfield 114, 3) := by decide +kernel
theorem dX6_takesFigure_24 : decode cX6_takesFigure 24 = .ok (.aload_n 0, 1) := by decide +kernel
theorem dX6_takesFigure_25 : decode cX6_takesFigure 25 = .ok (.invokevirtual 117, 3) := by decide +kernel
theorem dX6_takesFigure_28 : decode cX6_takesFigure 28 = .ok (.bipush 48, 2) := by decide +kernel
theorem dX6_takesFigure_30 : decode cX6_takesFigure 30 = .ok (.isub, 1) := by decide +kernel
theorem dX6_takesFigure_31 : decode cX6_takesFigure 31 = .ok (.istore_n 2, 1) := by decide +kernel
theorem dX6_takesFigure_32 : decode cX6_takesFigure 32 = .ok (.iload_n 2, 1) := by decide +kernel
theorem dX6_takesFigure_33 : decode cX6_takesFigure 33 = .ok (.i2l, 1) := by decide +kernel
theorem dX6_takesFigure_34 : decode cX6_takesFigure 34 = .ok (.lconst 0, 1) := by decide +kernel
theorem dX6_takesFigure_35 : decode cX6_takesFigure 35 = .ok (.ldc2_w 50, 3) := by decide +kernel
theorem dX6_takesFigure_38 : decode cX6_takesFigure 38 = .ok (.invokestatic 52, 3) := by decide +kernel
theorem dX6_takesFigure_41 : decode cX6_takesFigure 41 = .ok (.ifCond .ne 5, 3) := by decide +kernel
theorem dX6_takesFigure_44 : decode cX6_takesFigure 44 = .ok (.iconst 0, 1) := by decide +kernel
theorem dX6_takesFigure_45 : decode cX6_takesFigure 45 = .ok (.ireturn, 1) := by decide +kernel
theorem dX6_takesFigure_46 : decode cX6_takesFigure 46 = .ok (.aload_n 0, 1) := by decide +kernel
theorem dX6_takesFigure_47 : decode cX6_takesFigure 47 = .ok (.dup, 1) := by decide +kernel
theorem dX6_takesFigure_48 : decode cX6_takesFigure 48 = .ok (.getfield 114, 3) := by decide +kernel
theorem dX6_takesFigure_51 : decode cX6_takesFigure 51 = .ok (.iconst 1, 1) := by decide +kernel
theorem dX6_takesFigure_52 : decode cX6_takesFigure 52 = .ok (.iadd, 1) := by decide +kernel
theorem dX6_takesFigure_53 : decode cX6_takesFigure 53 = .ok (.putfield 114, 3) := by decide +kernel
theorem dX6_takesFigure_56 : decode cX6_takesFigure 56 = .ok (.aload_n 0, 1) := by decide +kernel
theorem dX6_takesFigure_57 : decode cX6_takesFigure 57 = .ok (.getfield 7, 3) := by decide +kernel
theorem dX6_takesFigure_60 : decode cX6_takesFigure 60 = .ok (.sipush 253, 3) := by decide +kernel
theorem dX6_takesFigure_63 : decode cX6_takesFigure 63 = .ok (.aload_n 0, 1) := by decide +kernel
theorem dX6_takesFigure_64 : decode cX6_takesFigure 64 = .ok (.getfield 7, 3) := by decide +kernel
theorem dX6_takesFigure_67 : decode cX6_takesFigure 67 = .ok (.sipush 241, 3) := by decide +kernel
theorem dX6_takesFigure_70 : decode cX6_takesFigure 70 = .ok (.iaload, 1) := by decide +kernel
theorem dX6_takesFigure_71 : decode cX6_takesFigure 71 = .ok (.iadd, 1) := by decide +kernel
theorem dX6_takesFigure_72 : decode cX6_takesFigure 72 = .ok (.iload_n 1, 1) := by decide +kernel
theorem dX6_takesFigure_73 : decode cX6_takesFigure 73 = .ok (.iastore, 1) := by decide +kernel
theorem dX6_takesFigure_74 : decode cX6_takesFigure 74 = .ok (.aload_n 0, 1) := by decide +kernel
theorem dX6_takesFigure_75 : decode cX6_takesFigure 75 = .ok (.getfield 7, 3) := by decide +kernel
theorem dX6_takesFigure_78 : decode cX6_takesFigure 78 = .ok (.sipush 258, 3) := by decide +kernel
theorem dX6_takesFigure_81 : decode cX6_takesFigure 81 = .ok (.aload_n 0, 1) := by decide +kernel
theorem dX6_takesFigure_82 : decode cX6_takesFigure 82 = .ok (.getfield 7, 3) := by decide +kernel
theorem dX6_takesFigure_85 : decode cX6_takesFigure 85 = .ok (.sipush 241, 3) := by decide +kernel
theorem dX6_takesFigure_88 : decode cX6_takesFigure 88 = .ok (.iaload, 1) := by decide +kernel
theorem dX6_takesFigure_89 : decode cX6_takesFigure 89 = .ok (.iadd, 1) := by decide +kernel
theorem dX6_takesFigure_90 : decode cX6_takesFigure 90 = .ok (.iload_n 2, 1) := by decide +kernel
theorem dX6_takesFigure_91 : decode cX6_takesFigure 91 = .ok (.iastore, 1) := by decide +kernel
theorem dX6_takesFigure_92 : decode cX6_takesFigure 92 = .ok (.aload_n 0, 1) := by decide +kernel
theorem dX6_takesFigure_93 : decode cX6_takesFigure 93 = .ok (.getfield 7, 3) := by decide +kernel
theorem dX6_takesFigure_96 : decode cX6_takesFigure 96 = .ok (.sipush 241, 3) := by decide +kernel
theorem dX6_takesFigure_99 : decode cX6_takesFigure 99 = .ok (.dup2, 1) := by decide +kernel
theorem dX6_takesFigure_100 : decode cX6_takesFigure 100 = .ok (.iaload, 1) := by decide +kernel
theorem dX6_takesFigure_101 : decode cX6_takesFigure 101 = .ok (.iconst 1, 1) := by decide +kernel
theorem dX6_takesFigure_102 : decode cX6_takesFigure 102 = .ok (.iadd, 1) := by decide +kernel
theorem dX6_takesFigure_103 : decode cX6_takesFigure 103 = .ok (.iastore, 1) := by decide +kernel
theorem dX6_takesFigure_104 : decode cX6_takesFigure 104 = .ok (.iconst 1, 1) := by decide +kernel
theorem dX6_takesFigure_105 : decode cX6_takesFigure 105 = .ok (.ireturn, 1) := by decide +kernel
theorem dX6_takesTune_0 : decode cX6_takesTune 0 = .ok (.aload_n 0, 1) := by decide +kernel
theorem dX6_takesTune_1 : decode cX6_takesTune 1 = .ok (.invokevirtual 117, 3) := by decide +kernel
theorem dX6_takesTune_4 : decode cX6_takesTune 4 = .ok (.bipush 48, 2) := by decide +kernel
theorem dX6_takesTune_6 : decode cX6_takesTune 6 = .ok (.isub, 1) := by decide +kernel
theorem dX6_takesTune_7 : decode cX6_takesTune 7 = .ok (.istore_n 1, 1) := by decide +kernel
theorem dX6_takesTune_8 : decode cX6_takesTune 8 = .ok (.iload_n 1, 1) := by decide +kernel
theorem dX6_takesTune_9 : decode cX6_takesTune 9 = .ok (.i2l, 1) := by decide +kernel
theorem dX6_takesTune_10 : decode cX6_takesTune 10 = .ok (.lconst 0, 1) := by decide +kernel
theorem dX6_takesTune_11 : decode cX6_takesTune 11 = .ok (.aload_n 0, 1) := by decide +kernel
theorem dX6_takesTune_12 : decode cX6_takesTune 12 = .ok (.getfield 7, 3) := by decide +kernel
theorem dX6_takesTune_15 : decode cX6_takesTune 15 = .ok (.sipush 241, 3) := by decide +kernel
theorem dX6_takesTune_18 : decode cX6_takesTune 18 = .ok (.iaload, 1) := by decide +kernel
theorem dX6_takesTune_19 : decode cX6_takesTune 19 = .ok (.iconst 1, 1) := by decide +kernel
theorem dX6_takesTune_20 : decode cX6_takesTune 20 = .ok (.isub, 1) := by decide +kernel
theorem dX6_takesTune_21 : decode cX6_takesTune 21 = .ok (.i2l, 1) := by decide +kernel
theorem dX6_takesTune_22 : decode cX6_takesTune 22 = .ok (.invokestatic 52, 3) := by decide +kernel
theorem dX6_takesTune_25 : decode cX6_takesTune 25 = .ok (.ifCond .ne 5, 3) := by decide +kernel
theorem dX6_takesTune_28 : decode cX6_takesTune 28 = .ok (.iconst 0, 1) := by decide +kernel
theorem dX6_takesTune_29 : decode cX6_takesTune 29 = .ok (.ireturn, 1) := by decide +kernel
theorem dX6_takesTune_30 : decode cX6_takesTune 30 = .ok (.aload_n 0, 1) := by decide +kernel
theorem dX6_takesTune_31 : decode cX6_takesTune 31 = .ok (.dup, 1) := by decide +kernel
theorem dX6_takesTune_32 : decode cX6_takesTune 32 = .ok (.getfield 114, 3) := by decide +kernel
theorem dX6_takesTune_35 : decode cX6_takesTune 35 = .ok (.iconst 1, 1) := by decide +kernel
theorem dX6_takesTune_36 : decode cX6_takesTune 36 = .ok (.iadd, 1) := by decide +kernel
theorem dX6_takesTune_37 : decode cX6_takesTune 37 = .ok (.putfield 114, 3) := by decide +kernel
theorem dX6_takesTune_40 : decode cX6_takesTune 40 = .ok (.aload_n 0, 1) := by decide +kernel
theorem dX6_takesTune_41 : decode cX6_takesTune 41 = .ok (.getfield 7, 3) := by decide +kernel
theorem dX6_takesTune_44 : decode cX6_takesTune 44 = .ok (.sipush 263, 3) := by decide +kernel
theorem dX6_takesTune_47 : decode cX6_takesTune 47 = .ok (.aload_n 0, 1) := by decide +kernel
theorem dX6_takesTune_48 : decode cX6_takesTune 48 = .ok (.getfield 7, 3) := by decide +kernel
theorem dX6_takesTune_51 : decode cX6_takesTune 51 = .ok (.sipush 242, 3) := by decide +kernel
theorem dX6_takesTune_54 : decode cX6_takesTune 54 = .ok (.iaload, 1) := by decide +kernel
theorem dX6_takesTune_55 : decode cX6_takesTune 55 = .ok (.iadd, 1) := by decide +kernel
theorem dX6_takesTune_56 : decode cX6_takesTune 56 = .ok (.iload_n 1, 1) := by decide +kernel
theorem dX6_takesTune_57 : decode cX6_takesTune 57 = .ok (.iastore, 1) := by decide +kernel
theorem dX6_takesTune_58 : decode cX6_takesTune 58 = .ok (.aload_n 0, 1) := by decide +kernel
theorem dX6_takesTune_59 : decode cX6_takesTune 59 = .ok (.getfield 7, 3) := by decide +kernel
theorem dX6_takesTune_62 : decode cX6_takesTune 62 = .ok (.sipush 242, 3) := by decide +kernel
theorem dX6_takesTune_65 : decode cX6_takesTune 65 = .ok (.dup2, 1) := by decide +kernel
theorem dX6_takesTune_66 : decode cX6_takesTune 66 = .ok (.iaload, 1) := by decide +kernel
theorem dX6_takesTune_67 : decode cX6_takesTune 67 = .ok (.iconst 1, 1) := by decide +kernel
theorem dX6_takesTune_68 : decode cX6_takesTune 68 = .ok (.iadd, 1) := by decide +kernel
theorem dX6_takesTune_69 : decode cX6_takesTune 69 = .ok (.iastore, 1) := by decide +kernel
theorem dX6_takesTune_70 : decode cX6_takesTune 70 = .ok (.iconst 1, 1) := by decide +kernel
theorem dX6_takesTune_71 : decode cX6_takesTune 71 = .ok (.ireturn, 1) := by decide +kernel
theorem dX6_takesRing_0 : decode cX6_takesRing 0 = .ok (.aload_n 0, 1) := by decide +kernel
theorem dX6_takesRing_1 : decode cX6_takesRing 1 = .ok (.invokevirtual 123, 3) := by decide +kernel
theorem dX6_takesRing_4 : decode cX6_takesRing 4 = .ok (.ifCond .ne 5, 3) := by decide +kernel
theorem dX6_takesRing_7 : decode cX6_takesRing 7 = .ok (.iconst 0, 1) := by decide +kernel
theorem dX6_takesRing_8 : decode cX6_takesRing 8 = .ok (.ireturn, 1) := by decide +kernel
theorem dX6_takesRing_9 : decode cX6_takesRing 9 = .ok (.aload_n 0, 1) := by decide +kernel
theorem dX6_takesRing_10 : decode cX6_takesRing 10 = .ok (.bipush 59, 2) := by decide +kernel
theorem dX6_takesRing_12 : decode cX6_takesRing 12 = .ok (.invokevirtual 127, 3) := by decide +kernel
theorem dX6_takesRing_15 : decode cX6_takesRing 15 = .ok (.ifCond .eq 71, 3) := by decide +kernel
theorem dX6_takesRing_18 : decode cX6_takesRing 18 = .ok (.aload_n 0, 1) := by decide +kernel
theorem dX6_takesRing_19 : decode cX6_takesRing 19 = .ok (.invokevirtual 130, 3) := by decide +kernel
theorem dX6_takesRing_22 : decode cX6_takesRing 22 = .ok (.ifCond .ne 5, 3) := by decide +kernel
theorem dX6_takesRing_25 : decode cX6_takesRing 25 = .ok (.iconst 0, 1) := by decide +kernel
theorem dX6_takesRing_26 : decode cX6_takesRing 26 = .ok (.ireturn, 1) := by decide +kernel
theorem dX6_takesRing_27 : decode cX6_takesRing 27 = .ok (.aload_n 0, 1) := by decide +kernel
theorem dX6_takesRing_28 : decode cX6_takesRing 28 = .ok (.getfield 7, 3) := by decide +kernel
theorem dX6_takesRing_31 : decode cX6_takesRing 31 = .ok (.sipush 241, 3) := by decide +kernel
theorem dX6_takesRing_34 : decode cX6_takesRing 34 = .ok (.iaload, 1) := by decide +kernel
theorem dX6_takesRing_35 : decode cX6_takesRing 35 = .ok (.iconst 5, 1) := by decide +kernel
theorem dX6_takesRing_36 : decode cX6_takesRing 36 = .ok (.if_icmp .ge 12, 3) := by decide +kernel
theorem dX6_takesRing_39 : decode cX6_takesRing 39 = .ok (.aload_n 0, 1) := by decide +kernel
theorem dX6_takesRing_40 : decode cX6_takesRing 40 = .ok (.bipush 44, 2) := by decide +kernel
theorem dX6_takesRing_42 : decode cX6_takesRing 42 = .ok (.invokevirtual 127, 3) := by decide +kernel
theorem dX6_takesRing_45 : decode cX6_takesRing 45 = .ok (.ifCond .ne (-27), 3) := by decide +kernel
theorem dX6_takesRing_48 : decode cX6_takesRing 48 = .ok (.aload_n 0, 1) := by decide +kernel
theorem dX6_takesRing_49 : decode cX6_takesRing 49 = .ok (.bipush 58, 2) := by decide +kernel
theorem dX6_takesRing_51 : decode cX6_takesRing 51 = .ok (.invokevirtual 127, 3) := by decide +kernel
theorem dX6_takesRing_54 : decode cX6_takesRing 54 = .ok (.ifCond .eq 32, 3) := by decide +kernel
theorem dX6_takesRing_57 : decode cX6_takesRing 57 = .ok (.aload_n 0, 1) := by decide +kernel
theorem dX6_takesRing_58 : decode cX6_takesRing 58 = .ok (.invokevirtual 133, 3) := by decide +kernel
theorem dX6_takesRing_61 : decode cX6_takesRing 61 = .ok (.ifCond .ne 5, 3) := by decide +kernel
theorem dX6_takesRing_64 : decode cX6_takesRing 64 = .ok (.iconst 0, 1) := by decide +kernel
theorem dX6_takesRing_65 : decode cX6_takesRing 65 = .ok (.ireturn, 1) := by decide +kernel
theorem dX6_takesRing_66 : decode cX6_takesRing 66 = .ok (.aload_n 0, 1) := by decide +kernel
theorem dX6_takesRing_67 : decode cX6_takesRing 67 = .ok (.getfield 7, 3) := by decide +kernel
theorem dX6_takesRing_70 : decode cX6_takesRing 70 = .ok (.sipush 242, 3) := by decide +kernel
theorem dX6_takesRing_73 : decode cX6_takesRing 73 = .ok (.iaload, 1) := by decide +kernel
theorem dX6_takesRing_74 : decode cX6_takesRing 74 = .ok (.bipush 16, 2) := by decide +kernel
theorem dX6_takesRing_76 : decode cX6_takesRing 76 = .ok (.if_icmp .ge 10, 3) := by decide +kernel
theorem dX6_takesRing_79 : decode cX6_takesRing 79 = .ok (.aload_n 0, 1) := by decide +kernel
theorem dX6_takesRing_80 : decode cX6_takesRing 80 = .ok (.invokevirtual 117, 3) := by decide +kernel
theorem dX6_takesRing_83 : decode cX6_takesRing 83 = .ok (.ifCond .ne (-26), 3) := by decide +kernel
theorem dX6_takesRing_86 : decode cX6_takesRing 86 = .ok (.aload_n 0, 1) := by decide +kernel
theorem dX6_takesRing_87 : decode cX6_takesRing 87 = .ok (.invokevirtual 117, 3) := by decide +kernel
theorem dX6_takesRing_90 : decode cX6_takesRing 90 = .ok (.ifCond .ne 7, 3) := by decide +kernel
theorem dX6_takesRing_93 : decode cX6_takesRing 93 = .ok (.iconst 1, 1) := by decide +kernel
theorem dX6_takesRing_94 : decode cX6_takesRing 94 = .ok (.goto 4, 3) := by decide +kernel
theorem dX6_takesRing_97 : decode cX6_takesRing 97 = .ok (.iconst 0, 1) := by decide +kernel
theorem dX6_takesRing_98 : decode cX6_takesRing 98 = .ok (.ireturn, 1) := by decide +kernel
theorem dX6_ring_0 : decode cX6_ring 0 = .ok (.iconst 0, 1) := by decide +kernel
theorem dX6_ring_1 : decode cX6_ring 1 = .ok (.istore_n 1, 1) := by decide +kernel
theorem dX6_ring_2 : decode cX6_ring 2 = .ok (.iload_n 1, 1) := by decide +kernel
theorem dX6_ring_3 : decode cX6_ring 3 = .ok (.bipush 39, 2) := by decide +kernel
theorem dX6_ring_5 : decode cX6_ring 5 = .ok (.if_icmp .ge 20, 3) := by decide +kernel
theorem dX6_ring_8 : decode cX6_ring 8 = .ok (.aload_n 0, 1) := by decide +kernel
theorem dX6_ring_9 : decode cX6_ring 9 = .ok (.getfield 7, 3) := by decide +kernel
theorem dX6_ring_12 : decode cX6_ring 12 = .ok (.sipush 240, 3) := by decide +kernel
theorem dX6_ring_15 : decode cX6_ring 15 = .ok (.iload_n 1, 1) := by decide +kernel
theorem dX6_ring_16 : decode cX6_ring 16 = .ok (.iadd, 1) := by decide +kernel
theorem dX6_ring_17 : decode cX6_ring 17 = .ok (.iconst 0, 1) := by decide +kernel
theorem dX6_ring_18 : decode cX6_ring 18 = .ok (.iastore, 1) := by decide +kernel
theorem dX6_ring_19 : decode cX6_ring 19 = .ok (.iinc 1 1, 3) := by decide +kernel
theorem dX6_ring_22 : decode cX6_ring 22 = .ok (.goto (-20), 3) := by decide +kernel
theorem dX6_ring_25 : decode cX6_ring 25 = .ok (.iconst 0, 1) := by decide +kernel
theorem dX6_ring_26 : decode cX6_ring 26 = .ok (.istore_n 1, 1) := by decide +kernel
theorem dX6_ring_27 : decode cX6_ring 27 = .ok (.iload_n 1, 1) := by decide +kernel
theorem dX6_ring_28 : decode cX6_ring 28 = .ok (.bipush 8, 2) := by decide +kernel
theorem dX6_ring_30 : decode cX6_ring 30 = .ok (.if_icmp .ge 21, 3) := by decide +kernel
theorem dX6_ring_33 : decode cX6_ring 33 = .ok (.aload_n 0, 1) := by decide +kernel
theorem dX6_ring_34 : decode cX6_ring 34 = .ok (.getfield 7, 3) := by decide +kernel
theorem dX6_ring_37 : decode cX6_ring 37 = .ok (.sipush 245, 3) := by decide +kernel
theorem dX6_ring_40 : decode cX6_ring 40 = .ok (.iload_n 1, 1) := by decide +kernel
theorem dX6_ring_41 : decode cX6_ring 41 = .ok (.iadd, 1) := by decide +kernel
theorem dX6_ring_42 : decode cX6_ring 42 = .ok (.bipush (-4), 2) := by decide +kernel
theorem dX6_ring_44 : decode cX6_ring 44 = .ok (.iastore, 1) := by decide +kernel
theorem dX6_ring_45 : decode cX6_ring 45 = .ok (.iinc 1 1, 3) := by decide +kernel
theorem dX6_ring_48 : decode cX6_ring 48 = .ok (.goto (-21), 3) := by decide +kernel
theorem dX6_ring_51 : decode cX6_ring 51 = .ok (.aload_n 0, 1) := by decide +kernel
theorem dX6_ring_52 : decode cX6_ring 52 = .ok (.getfield 7, 3) := by decide +kernel
theorem dX6_ring_55 : decode cX6_ring 55 = .ok (.sipush 244, 3) := by decide +kernel
theorem dX6_ring_58 : decode cX6_ring 58 = .ok (.aload_n 0, 1) := by decide +kernel
theorem dX6_ring_59 : decode cX6_ring 59 = .ok (.getfield 7, 3) := by decide +kernel
theorem dX6_ring_62 : decode cX6_ring 62 = .ok (.iconst 4, 1) := by decide +kernel
theorem dX6_ring_63 : decode cX6_ring 63 = .ok (.iaload, 1) := by decide +kernel
theorem dX6_ring_64 : decode cX6_ring 64 = .ok (.iastore, 1) := by decide +kernel
theorem dX6_ring_65 : decode cX6_ring 65 = .ok (.aload_n 0, 1) := by decide +kernel
theorem dX6_ring_66 : decode cX6_ring 66 = .ok (.iconst 0, 1) := by decide +kernel
theorem dX6_ring_67 : decode cX6_ring 67 = .ok (.putfield 114, 3) := by decide +kernel
theorem dX6_ring_70 : decode cX6_ring 70 = .ok (.aload_n 0, 1) := by decide +kernel
theorem dX6_ring_71 : decode cX6_ring 71 = .ok (.invokevirtual 136, 3) := by decide +kernel
theorem dX6_ring_74 : decode cX6_ring 74 = .ok (.istore_n 1, 1) := by decide +kernel
theorem dX6_ring_75 : decode cX6_ring 75 = .ok (.aload_n 0, 1) := by decide +kernel
theorem dX6_ring_76 : decode cX6_ring 76 = .ok (.iconst 0, 1) := by decide +kernel
theorem dX6_ring_77 : decode cX6_ring 77 = .ok (.putfield 110, 3) := by decide +kernel
theorem dX6_ring_80 : decode cX6_ring 80 = .ok (.iload_n 1, 1) := by decide +kernel
theorem dX6_ring_81 : decode cX6_ring 81 = .ok (.ifCond .ne 11, 3) := by decide +kernel
theorem dX6_ring_84 : decode cX6_ring 84 = .ok (.bipush (-20), 2) := by decide +kernel
theorem dX6_ring_86 : decode cX6_ring 86 = .ok (.aload_n 0, 1) := by decide +kernel
theorem dX6_ring_87 : decode cX6_ring 87 = .ok (.getfield 114, 3) := by decide +kernel
theorem dX6_ring_90 : decode cX6_ring 90 = .ok (.isub, 1) := by decide +kernel
theorem dX6_ring_91 : decode cX6_ring 91 = .ok (.ireturn, 1) := by decide +kernel
theorem dX6_ring_92 : decode cX6_ring 92 = .ok (.aload_n 0, 1) := by decide +kernel
theorem dX6_ring_93 : decode cX6_ring 93 = .ok (.sipush 240, 3) := by decide +kernel
theorem dX6_ring_96 : decode cX6_ring 96 = .ok (.iconst 0, 1) := by decide +kernel
theorem dX6_ring_97 : decode cX6_ring 97 = .ok (.bipush 39, 2) := by decide +kernel
theorem dX6_ring_99 : decode cX6_ring 99 = .ok (.invokevirtual 139, 3) := by decide +kernel
theorem dX6_ring_102 : decode cX6_ring 102 = .ok (.aload_n 0, 1) := by decide +kernel
theorem dX6_ring_103 : decode cX6_ring 103 = .ok (.getfield 7, 3) := by decide +kernel
theorem dX6_ring_106 : decode cX6_ring 106 = .ok (.bipush 39, 2) := by decide +kernel
theorem dX6_ring_108 : decode cX6_ring 108 = .ok (.iconst 0, 1) := by decide +kernel
theorem dX6_ring_109 : decode cX6_ring 109 = .ok (.iastore, 1) := by decide +kernel
theorem dX6_ring_110 : decode cX6_ring 110 = .ok (.aload_n 0, 1) := by decide +kernel
theorem dX6_ring_111 : decode cX6_ring 111 = .ok (.getfield 7, 3) := by decide +kernel
theorem dX6_ring_114 : decode cX6_ring 114 = .ok (.iconst 0, 1) := by decide +kernel
theorem dX6_ring_115 : decode cX6_ring 115 = .ok (.iaload, 1) := by decide +kernel
theorem dX6_ring_116 : decode cX6_ring 116 = .ok (.ireturn, 1) := by decide +kernel
theorem dX6_goneOnes_0 : decode cX6_goneOnes 0 = .ok (.iconst 0, 1) := by decide +kernel
theorem dX6_goneOnes_1 : decode cX6_goneOnes 1 = .ok (.istore_n 1, 1) := by decide +kernel
theorem dX6_goneOnes_2 : decode cX6_goneOnes 2 = .ok (.iconst 0, 1) := by decide +kernel
theorem dX6_goneOnes_3 : decode cX6_goneOnes 3 = .ok (.istore_n 2, 1) := by decide +kernel
theorem dX6_goneOnes_4 : decode cX6_goneOnes 4 = .ok (.iload_n 2, 1) := by decide +kernel
theorem dX6_goneOnes_5 : decode cX6_goneOnes 5 = .ok (.aload_n 0, 1) := by decide +kernel
theorem dX6_goneOnes_6 : decode cX6_goneOnes 6 = .ok (.getfield 7, 3) := by decide +kernel
theorem dX6_goneOnes_9 : decode cX6_goneOnes 9 = .ok (.iconst 0, 1) := by decide +kernel
theorem dX6_goneOnes_10 : decode cX6_goneOnes 10 = .ok (.iaload, 1) := by decide +kernel
theorem dX6_goneOnes_11 : decode cX6_goneOnes 11 = .ok (.if_icmp .ge 32, 3) := by decide +kernel
theorem dX6_goneOnes_14 : decode cX6_goneOnes 14 = .ok (.iload_n 1, 1) := by decide +kernel
theorem dX6_goneOnes_15 : decode cX6_goneOnes 15 = .ok (.aload_n 0, 1) := by decide +kernel
theorem dX6_goneOnes_16 : decode cX6_goneOnes 16 = .ok (.getfield 7, 3) := by decide +kernel
theorem dX6_goneOnes_19 : decode cX6_goneOnes 19 = .ok (.iconst 5, 1) := by decide +kernel
theorem dX6_goneOnes_20 : decode cX6_goneOnes 20 = .ok (.iload_n 2, 1) := by decide +kernel
theorem dX6_goneOnes_21 : decode cX6_goneOnes 21 = .ok (.iadd, 1) := by decide +kernel
theorem dX6_goneOnes_22 : decode cX6_goneOnes 22 = .ok (.iaload, 1) := by decide +kernel
theorem dX6_goneOnes_23 : decode cX6_goneOnes 23 = .ok (.bipush (-4), 2) := by decide +kernel
theorem dX6_goneOnes_25 : decode cX6_goneOnes 25 = .ok (.if_icmp .ne 9, 3) := by decide +kernel
theorem dX6_goneOnes_28 : decode cX6_goneOnes 28 = .ok (.iconst 1, 1) := by decide +kernel
theorem dX6_goneOnes_29 : decode cX6_goneOnes 29 = .ok (.iload_n 2, 1) := by decide +kernel
theorem dX6_goneOnes_30 : decode cX6_goneOnes 30 = .ok (.ishl, 1) := by decide +kernel
theorem dX6_goneOnes_31 : decode cX6_goneOnes 31 = .ok (.goto 4, 3) := by decide +kernel
theorem dX6_goneOnes_34 : decode cX6_goneOnes 34 = .ok (.iconst 0, 1) := by decide +kernel
theorem dX6_goneOnes_35 : decode cX6_goneOnes 35 = .ok (.ior, 1) := by decide +kernel
theorem dX6_goneOnes_36 : decode cX6_goneOnes 36 = .ok (.istore_n 1, 1) := by decide +kernel
theorem dX6_goneOnes_37 : decode cX6_goneOnes 37 = .ok (.iinc 2 1, 3) := by decide +kernel
theorem dX6_goneOnes_40 : decode cX6_goneOnes 40 = .ok (.goto (-36), 3) := by decide +kernel
theorem dX6_goneOnes_43 : decode cX6_goneOnes 43 = .ok (.iload_n 1, 1) := by decide +kernel
theorem dX6_goneOnes_44 : decode cX6_goneOnes 44 = .ok (.ireturn, 1) := by decide +kernel
theorem dX6_count_0 : decode cX6_count 0 = .ok (.iload_n 1, 1) := by decide +kernel
theorem dX6_count_1 : decode cX6_count 1 = .ok (.tableswitch 129 0 7 #[47, 54, 61, 68, 75, 80, 85, 121], 47) := by decide +kernel
theorem dX6_count_48 : decode cX6_count 48 = .ok (.aload_n 0, 1) := by decide +kernel
theorem dX6_count_49 : decode cX6_count 49 = .ok (.getfield 7, 3) := by decide +kernel
theorem dX6_count_52 : decode cX6_count 52 = .ok (.iconst 0, 1) := by decide +kernel
theorem dX6_count_53 : decode cX6_count 53 = .ok (.iaload, 1) := by decide +kernel
theorem dX6_count_54 : decode cX6_count 54 = .ok (.ireturn, 1) := by decide +kernel
theorem dX6_count_55 : decode cX6_count 55 = .ok (.aload_n 0, 1) := by decide +kernel
theorem dX6_count_56 : decode cX6_count 56 = .ok (.getfield 7, 3) := by decide +kernel
theorem dX6_count_59 : decode cX6_count 59 = .ok (.iconst 1, 1) := by decide +kernel
theorem dX6_count_60 : decode cX6_count 60 = .ok (.iaload, 1) := by decide +kernel
theorem dX6_count_61 : decode cX6_count 61 = .ok (.ireturn, 1) := by decide +kernel
theorem dX6_count_62 : decode cX6_count 62 = .ok (.aload_n 0, 1) := by decide +kernel
theorem dX6_count_63 : decode cX6_count 63 = .ok (.getfield 7, 3) := by decide +kernel
theorem dX6_count_66 : decode cX6_count 66 = .ok (.iconst 2, 1) := by decide +kernel
theorem dX6_count_67 : decode cX6_count 67 = .ok (.iaload, 1) := by decide +kernel
theorem dX6_count_68 : decode cX6_count 68 = .ok (.ireturn, 1) := by decide +kernel
theorem dX6_count_69 : decode cX6_count 69 = .ok (.aload_n 0, 1) := by decide +kernel
theorem dX6_count_70 : decode cX6_count 70 = .ok (.getfield 7, 3) := by decide +kernel
theorem dX6_count_73 : decode cX6_count 73 = .ok (.iconst 3, 1) := by decide +kernel
theorem dX6_count_74 : decode cX6_count 74 = .ok (.iaload, 1) := by decide +kernel
theorem dX6_count_75 : decode cX6_count 75 = .ok (.ireturn, 1) := by decide +kernel
theorem dX6_count_76 : decode cX6_count 76 = .ok (.aload_n 0, 1) := by decide +kernel
theorem dX6_count_77 : decode cX6_count 77 = .ok (.invokevirtual 78, 3) := by decide +kernel
theorem dX6_count_80 : decode cX6_count 80 = .ok (.ireturn, 1) := by decide +kernel
theorem dX6_count_81 : decode cX6_count 81 = .ok (.aload_n 0, 1) := by decide +kernel
theorem dX6_count_82 : decode cX6_count 82 = .ok (.invokevirtual 143, 3) := by decide +kernel
theorem dX6_count_85 : decode cX6_count 85 = .ok (.ireturn, 1) := by decide +kernel
theorem dX6_count_86 : decode cX6_count 86 = .ok (.aload_n 0, 1) := by decide +kernel
theorem dX6_count_87 : decode cX6_count 87 = .ok (.getfield 7, 3) := by decide +kernel
theorem dX6_count_90 : decode cX6_count 90 = .ok (.iconst 2, 1) := by decide +kernel
theorem dX6_count_91 : decode cX6_count 91 = .ok (.iaload, 1) := by decide +kernel
theorem dX6_count_92 : decode cX6_count 92 = .ok (.ifCond .ne 8, 3) := by decide +kernel
theorem dX6_count_95 : decode cX6_count 95 = .ok (.bipush (-4), 2) := by decide +kernel
theorem dX6_count_97 : decode cX6_count 97 = .ok (.goto 24, 3) := by decide +kernel
theorem dX6_count_100 : decode cX6_count 100 = .ok (.aload_n 0, 1) := by decide +kernel
theorem dX6_count_101 : decode cX6_count 101 = .ok (.getfield 7, 3) := by decide +kernel
theorem dX6_count_104 : decode cX6_count 104 = .ok (.bipush 23, 2) := by decide +kernel
theorem dX6_count_106 : decode cX6_count 106 = .ok (.aload_n 0, 1) := by decide +kernel
theorem dX6_count_107 : decode cX6_count 107 = .ok (.getfield 7, 3) := by decide +kernel
theorem dX6_count_110 : decode cX6_count 110 = .ok (.iconst 3, 1) := by decide +kernel
theorem dX6_count_111 : decode cX6_count 111 = .ok (.iaload, 1) := by decide +kernel
theorem dX6_count_112 : decode cX6_count 112 = .ok (.aload_n 0, 1) := by decide +kernel
theorem dX6_count_113 : decode cX6_count 113 = .ok (.getfield 7, 3) := by decide +kernel
theorem dX6_count_116 : decode cX6_count 116 = .ok (.iconst 2, 1) := by decide +kernel
theorem dX6_count_117 : decode cX6_count 117 = .ok (.iaload, 1) := by decide +kernel
theorem dX6_count_118 : decode cX6_count 118 = .ok (.irem, 1) := by decide +kernel
theorem dX6_count_119 : decode cX6_count 119 = .ok (.iadd, 1) := by decide +kernel
theorem dX6_count_120 : decode cX6_count 120 = .ok (.iaload, 1) := by decide +kernel
theorem dX6_count_121 : decode cX6_count 121 = .ok (.ireturn, 1) := by decide +kernel
theorem dX6_count_122 : decode cX6_count 122 = .ok (.aload_n 0, 1) := by decide +kernel
theorem dX6_count_123 : decode cX6_count 123 = .ok (.getfield 7, 3) := by decide +kernel
theorem dX6_count_126 : decode cX6_count 126 = .ok (.bipush 39, 2) := by decide +kernel
theorem dX6_count_128 : decode cX6_count 128 = .ok (.iaload, 1) := by decide +kernel
theorem dX6_count_129 : decode cX6_count 129 = .ok (.ireturn, 1) := by decide +kernel
theorem dX6_count_130 : decode cX6_count 130 = .ok (.iconst (-1), 1) := by decide +kernel
theorem dX6_count_131 : decode cX6_count 131 = .ok (.ireturn, 1) := by decide +kernel
theorem dX6_minds_0 : decode cX6_minds 0 = .ok (.aload_n 0, 1) := by decide +kernel
theorem dX6_minds_1 : decode cX6_minds 1 = .ok (.getfield 7, 3) := by decide +kernel
theorem dX6_minds_4 : decode cX6_minds 4 = .ok (.bipush 39, 2) := by decide +kernel
theorem dX6_minds_6 : decode cX6_minds 6 = .ok (.iaload, 1) := by decide +kernel
theorem dX6_minds_7 : decode cX6_minds 7 = .ok (.bipush 8, 2) := by decide +kernel
theorem dX6_minds_9 : decode cX6_minds 9 = .ok (.if_icmp .ne 24, 3) := by decide +kernel
theorem dX6_minds_12 : decode cX6_minds 12 = .ok (.aload_n 0, 1) := by decide +kernel
theorem dX6_minds_13 : decode cX6_minds 13 = .ok (.bipush 50, 2) := by decide +kernel
theorem dX6_minds_15 : decode cX6_minds 15 = .ok (.bipush 40, 2) := by decide +kernel
theorem dX6_minds_17 : decode cX6_minds 17 = .ok (.bipush 70, 2) := by decide +kernel
theorem dX6_minds_19 : decode cX6_minds 19 = .ok (.invokevirtual 139, 3) := by decide +kernel
theorem dX6_minds_22 : decode cX6_minds 22 = .ok (.aload_n 0, 1) := by decide +kernel
theorem dX6_minds_23 : decode cX6_minds 23 = .ok (.getfield 7, 3) := by decide +kernel
theorem dX6_minds_26 : decode cX6_minds 26 = .ok (.bipush 39, 2) := by decide +kernel
theorem dX6_minds_28 : decode cX6_minds 28 = .ok (.dup2, 1) := by decide +kernel
theorem dX6_minds_29 : decode cX6_minds 29 = .ok (.iaload, 1) := by decide +kernel
theorem dX6_minds_30 : decode cX6_minds 30 = .ok (.iconst 1, 1) := by decide +kernel
theorem dX6_minds_31 : decode cX6_minds 31 = .ok (.isub, 1) := by decide +kernel
theorem dX6_minds_32 : decode cX6_minds 32 = .ok (.iastore, 1) := by decide +kernel
theorem dX6_minds_33 : decode cX6_minds 33 = .ok (.aload_n 0, 1) := by decide +kernel
theorem dX6_minds_34 : decode cX6_minds 34 = .ok (.iconst 3, 1) := by decide +kernel
theorem dX6_minds_35 : decode cX6_minds 35 = .ok (.bipush 40, 2) := by decide +kernel
theorem dX6_minds_37 : decode cX6_minds 37 = .ok (.bipush 10, 2) := by decide +kernel
theorem dX6_minds_39 : decode cX6_minds 39 = .ok (.aload_n 0, 1) := by decide +kernel
theorem dX6_minds_40 : decode cX6_minds 40 = .ok (.getfield 7, 3) := by decide +kernel
theorem dX6_minds_43 : decode cX6_minds 43 = .ok (.bipush 39, 2) := by decide +kernel
theorem dX6_minds_45 : decode cX6_minds 45 = .ok (.iaload, 1) := by decide +kernel
theorem dX6_minds_46 : decode cX6_minds 46 = .ok (.imul, 1) := by decide +kernel
theorem dX6_minds_47 : decode cX6_minds 47 = .ok (.iadd, 1) := by decide +kernel
theorem dX6_minds_48 : decode cX6_minds 48 = .ok (.bipush 10, 2) := by decide +kernel
theorem dX6_minds_50 : decode cX6_minds 50 = .ok (.invokevirtual 139, 3) := by decide +kernel
theorem dX6_minds_53 : decode cX6_minds 53 = .ok (.aload_n 0, 1) := by decide +kernel
theorem dX6_minds_54 : decode cX6_minds 54 = .ok (.getfield 7, 3) := by decide +kernel
theorem dX6_minds_57 : decode cX6_minds 57 = .ok (.bipush 39, 2) := by decide +kernel
theorem dX6_minds_59 : decode cX6_minds 59 = .ok (.dup2, 1) := by decide +kernel
theorem dX6_minds_60 : decode cX6_minds 60 = .ok (.iaload, 1) := by decide +kernel
theorem dX6_minds_61 : decode cX6_minds 61 = .ok (.iconst 1, 1) := by decide +kernel
theorem dX6_minds_62 : decode cX6_minds 62 = .ok (.iadd, 1) := by decide +kernel
theorem dX6_minds_63 : decode cX6_minds 63 = .ok (.iastore, 1) := by decide +kernel
theorem dX6_minds_64 : decode cX6_minds 64 = .ok (.return_, 1) := by decide +kernel
theorem dX6_passes_0 : decode cX6_passes 0 = .ok (.iconst 0, 1) := by decide +kernel
theorem dX6_passes_1 : decode cX6_passes 1 = .ok (.istore_n 1, 1) := by decide +kernel
theorem dX6_passes_2 : decode cX6_passes 2 = .ok (.iload_n 1, 1) := by decide +kernel
theorem dX6_passes_3 : decode cX6_passes 3 = .ok (.aload_n 0, 1) := by decide +kernel
theorem dX6_passes_4 : decode cX6_passes 4 = .ok (.getfield 7, 3) := by decide +kernel
theorem dX6_passes_7 : decode cX6_passes 7 = .ok (.iconst 0, 1) := by decide +kernel
theorem dX6_passes_8 : decode cX6_passes 8 = .ok (.iaload, 1) := by decide +kernel
theorem dX6_passes_9 : decode cX6_passes 9 = .ok (.if_icmp .ge 72, 3) := by decide +kernel
theorem dX6_passes_12 : decode cX6_passes 12 = .ok (.aload_n 0, 1) := by decide +kernel
theorem dX6_passes_13 : decode cX6_passes 13 = .ok (.getfield 7, 3) := by decide +kernel
theorem dX6_passes_16 : decode cX6_passes 16 = .ok (.iconst 2, 1) := by decide +kernel
theorem dX6_passes_17 : decode cX6_passes 17 = .ok (.iaload, 1) := by decide +kernel
theorem dX6_passes_18 : decode cX6_passes 18 = .ok (.ifCond .le 63, 3) := by decide +kernel
theorem dX6_passes_21 : decode cX6_passes 21 = .ok (.aload_n 0, 1) := by decide +kernel
theorem dX6_passes_22 : decode cX6_passes 22 = .ok (.getfield 7, 3) := by decide +kernel
theorem dX6_passes_25 : decode cX6_passes 25 = .ok (.iconst 5, 1) := by decide +kernel
theorem dX6_passes_26 : decode cX6_passes 26 = .ok (.iload_n 1, 1) := by decide +kernel
theorem dX6_passes_27 : decode cX6_passes 27 = .ok (.iadd, 1) := by decide +kernel
theorem dX6_passes_28 : decode cX6_passes 28 = .ok (.iaload, 1) := by decide +kernel
theorem dX6_passes_29 : decode cX6_passes 29 = .ok (.bipush (-4), 2) := by decide +kernel
theorem dX6_passes_31 : decode cX6_passes 31 = .ok (.if_icmp .eq 44, 3) := by decide +kernel
theorem dX6_passes_34 : decode cX6_passes 34 = .ok (.aload_n 0, 1) := by decide +kernel
theorem dX6_passes_35 : decode cX6_passes 35 = .ok (.getfield 7, 3) := by decide +kernel
theorem dX6_passes_38 : decode cX6_passes 38 = .ok (.iconst 5, 1) := by decide +kernel
theorem dX6_passes_39 : decode cX6_passes 39 = .ok (.iload_n 1, 1) := by decide +kernel
theorem dX6_passes_40 : decode cX6_passes 40 = .ok (.iadd, 1) := by decide +kernel
theorem dX6_passes_41 : decode cX6_passes 41 = .ok (.aload_n 0, 1) := by decide +kernel
theorem dX6_passes_42 : decode cX6_passes 42 = .ok (.aload_n 0, 1) := by decide +kernel
theorem dX6_passes_43 : decode cX6_passes 43 = .ok (.getfield 7, 3) := by decide +kernel
theorem dX6_passes_46 : decode cX6_passes 46 = .ok (.bipush 23, 2) := by decide +kernel
theorem dX6_passes_48 : decode cX6_passes 48 = .ok (.aload_n 0, 1) := by decide +kernel
theorem dX6_passes_49 : decode cX6_passes 49 = .ok (.getfield 7, 3) := by decide +kernel
theorem dX6_passes_52 : decode cX6_passes 52 = .ok (.iconst 3, 1) := by decide +kernel
theorem dX6_passes_53 : decode cX6_passes 53 = .ok (.iaload, 1) := by decide +kernel
theorem dX6_passes_54 : decode cX6_passes 54 = .ok (.aload_n 0, 1) := by decide +kernel
theorem dX6_passes_55 : decode cX6_passes 55 = .ok (.getfield 7, 3) := by decide +kernel
theorem dX6_passes_58 : decode cX6_passes 58 = .ok (.iconst 2, 1) := by decide +kernel
theorem dX6_passes_59 : decode cX6_passes 59 = .ok (.iaload, 1) := by decide +kernel
theorem dX6_passes_60 : decode cX6_passes 60 = .ok (.irem, 1) := by decide +kernel
theorem dX6_passes_61 : decode cX6_passes 61 = .ok (.iadd, 1) := by decide +kernel
theorem dX6_passes_62 : decode cX6_passes 62 = .ok (.iaload, 1) := by decide +kernel
theorem dX6_passes_63 : decode cX6_passes 63 = .ok (.aload_n 0, 1) := by decide +kernel
theorem dX6_passes_64 : decode cX6_passes 64 = .ok (.getfield 7, 3) := by decide +kernel
theorem dX6_passes_67 : decode cX6_passes 67 = .ok (.iconst 5, 1) := by decide +kernel
theorem dX6_passes_68 : decode cX6_passes 68 = .ok (.iload_n 1, 1) := by decide +kernel
theorem dX6_passes_69 : decode cX6_passes 69 = .ok (.iadd, 1) := by decide +kernel
theorem dX6_passes_70 : decode cX6_passes 70 = .ok (.iaload, 1) := by decide +kernel
theorem dX6_passes_71 : decode cX6_passes 71 = .ok (.invokevirtual 67, 3) := by decide +kernel
theorem dX6_passes_74 : decode cX6_passes 74 = .ok (.iastore, 1) := by decide +kernel
theorem dX6_passes_75 : decode cX6_passes 75 = .ok (.iinc 1 1, 3) := by decide +kernel
theorem dX6_passes_78 : decode cX6_passes 78 = .ok (.goto (-76), 3) := by decide +kernel
theorem dX6_passes_81 : decode cX6_passes 81 = .ok (.aload_n 0, 1) := by decide +kernel
theorem dX6_passes_82 : decode cX6_passes 82 = .ok (.getfield 7, 3) := by decide +kernel
theorem dX6_passes_85 : decode cX6_passes 85 = .ok (.iconst 3, 1) := by decide +kernel
theorem dX6_passes_86 : decode cX6_passes 86 = .ok (.dup2, 1) := by decide +kernel
theorem dX6_passes_87 : decode cX6_passes 87 = .ok (.iaload, 1) := by decide +kernel
theorem dX6_passes_88 : decode cX6_passes 88 = .ok (.iconst 1, 1) := by decide +kernel
theorem dX6_passes_89 : decode cX6_passes 89 = .ok (.iadd, 1) := by decide +kernel
theorem dX6_passes_90 : decode cX6_passes 90 = .ok (.iastore, 1) := by decide +kernel
theorem dX6_passes_91 : decode cX6_passes 91 = .ok (.return_, 1) := by decide +kernel
theorem dX6_blows_0 : decode cX6_blows 0 = .ok (.iconst 0, 1) := by decide +kernel
theorem dX6_blows_1 : decode cX6_blows 1 = .ok (.istore_n 2, 1) := by decide +kernel
theorem dX6_blows_2 : decode cX6_blows 2 = .ok (.iload_n 2, 1) := by decide +kernel
theorem dX6_blows_3 : decode cX6_blows 3 = .ok (.aload_n 0, 1) := by decide +kernel
theorem dX6_blows_4 : decode cX6_blows 4 = .ok (.getfield 7, 3) := by decide +kernel
theorem dX6_blows_7 : decode cX6_blows 7 = .ok (.iconst 0, 1) := by decide +kernel
theorem dX6_blows_8 : decode cX6_blows 8 = .ok (.iaload, 1) := by decide +kernel
theorem dX6_blows_9 : decode cX6_blows 9 = .ok (.if_icmp .ge 48, 3) := by decide +kernel
theorem dX6_blows_12 : decode cX6_blows 12 = .ok (.aload_n 0, 1) := by decide +kernel
theorem dX6_blows_13 : decode cX6_blows 13 = .ok (.getfield 7, 3) := by decide +kernel
theorem dX6_blows_16 : decode cX6_blows 16 = .ok (.iconst 5, 1) := by decide +kernel
theorem dX6_blows_17 : decode cX6_blows 17 = .ok (.iload_n 2, 1) := by decide +kernel
theorem dX6_blows_18 : decode cX6_blows 18 = .ok (.iadd, 1) := by decide +kernel
theorem dX6_blows_19 : decode cX6_blows 19 = .ok (.aload_n 0, 1) := by decide +kernel
theorem dX6_blows_20 : decode cX6_blows 20 = .ok (.getfield 7, 3) := by decide +kernel
theorem dX6_blows_23 : decode cX6_blows 23 = .ok (.iconst 5, 1) := by decide +kernel
theorem dX6_blows_24 : decode cX6_blows 24 = .ok (.iload_n 2, 1) := by decide +kernel
theorem dX6_blows_25 : decode cX6_blows 25 = .ok (.iadd, 1) := by decide +kernel
theorem dX6_blows_26 : decode cX6_blows 26 = .ok (.iaload, 1) := by decide +kernel
theorem dX6_blows_27 : decode cX6_blows 27 = .ok (.bipush (-4), 2) := by decide +kernel
theorem dX6_blows_29 : decode cX6_blows 29 = .ok (.if_icmp .ne 8, 3) := by decide +kernel
theorem dX6_blows_32 : decode cX6_blows 32 = .ok (.bipush (-4), 2) := by decide +kernel
theorem dX6_blows_34 : decode cX6_blows 34 = .ok (.goto 16, 3) := by decide +kernel
theorem dX6_blows_37 : decode cX6_blows 37 = .ok (.aload_n 0, 1) := by decide +kernel
theorem dX6_blows_38 : decode cX6_blows 38 = .ok (.getfield 7, 3) := by decide +kernel
theorem dX6_blows_41 : decode cX6_blows 41 = .ok (.iconst 5, 1) := by decide +kernel
theorem dX6_blows_42 : decode cX6_blows 42 = .ok (.iload_n 2, 1) := by decide +kernel
theorem dX6_blows_43 : decode cX6_blows 43 = .ok (.iadd, 1) := by decide +kernel
theorem dX6_blows_44 : decode cX6_blows 44 = .ok (.iaload, 1) := by decide +kernel
theorem dX6_blows_45 : decode cX6_blows 45 = .ok (.iload_n 1, 1) := by decide +kernel
theorem dX6_blows_46 : decode cX6_blows 46 = .ok (.iadd, 1) := by decide +kernel
theorem dX6_blows_47 : decode cX6_blows 47 = .ok (.bipush 8, 2) := by decide +kernel
theorem dX6_blows_49 : decode cX6_blows 49 = .ok (.irem, 1) := by decide +kernel
theorem dX6_blows_50 : decode cX6_blows 50 = .ok (.iastore, 1) := by decide +kernel
theorem dX6_blows_51 : decode cX6_blows 51 = .ok (.iinc 2 1, 3) := by decide +kernel
theorem dX6_blows_54 : decode cX6_blows 54 = .ok (.goto (-52), 3) := by decide +kernel
theorem dX6_blows_57 : decode cX6_blows 57 = .ok (.return_, 1) := by decide +kernel
theorem dX6_beats_0 : decode cX6_beats 0 = .ok (.iload_n 1, 1) := by decide +kernel
theorem dX6_beats_1 : decode cX6_beats 1 = .ok (.i2l, 1) := by decide +kernel
theorem dX6_beats_2 : decode cX6_beats 2 = .ok (.lconst 1, 1) := by decide +kernel
theorem dX6_beats_3 : decode cX6_beats 3 = .ok (.ldc2_w 146, 3) := by decide +kernel
theorem dX6_beats_6 : decode cX6_beats 6 = .ok (.invokestatic 52, 3) := by decide +kernel
theorem dX6_beats_9 : decode cX6_beats 9 = .ok (.ifCond .ne 5, 3) := by decide +kernel
theorem dX6_beats_12 : decode cX6_beats 12 = .ok (.iconst (-1), 1) := by decide +kernel
theorem dX6_beats_13 : decode cX6_beats 13 = .ok (.ireturn, 1) := by decide +kernel
theorem dX6_beats_14 : decode cX6_beats 14 = .ok (.aload_n 0, 1) := by decide +kernel
theorem dX6_beats_15 : decode cX6_beats 15 = .ok (.getfield 7, 3) := by decide +kernel
theorem dX6_beats_18 : decode cX6_beats 18 = .ok (.iconst 3, 1) := by decide +kernel
theorem dX6_beats_19 : decode cX6_beats 19 = .ok (.iaload, 1) := by decide +kernel
theorem dX6_beats_20 : decode cX6_beats 20 = .ok (.iload_n 1, 1) := by decide +kernel
theorem dX6_beats_21 : decode cX6_beats 21 = .ok (.iadd, 1) := by decide +kernel
theorem dX6_beats_22 : decode cX6_beats 22 = .ok (.sipush 9999, 3) := by decide +kernel
theorem dX6_beats_25 : decode cX6_beats 25 = .ok (.if_icmp .le 6, 3) := by decide +kernel
theorem dX6_beats_28 : decode cX6_beats 28 = .ok (.bipush (-3), 2) := by decide +kernel
theorem dX6_beats_30 : decode cX6_beats 30 = .ok (.ireturn, 1) := by decide +kernel
theorem dX6_beats_31 : decode cX6_beats 31 = .ok (.iconst 0, 1) := by decide +kernel
theorem dX6_beats_32 : decode cX6_beats 32 = .ok (.istore_n 2, 1) := by decide +kernel
theorem dX6_beats_33 : decode cX6_beats 33 = .ok (.iload_n 2, 1) := by decide +kernel
theorem dX6_beats_34 : decode cX6_beats 34 = .ok (.iload_n 1, 1) := by decide +kernel
theorem dX6_beats_35 : decode cX6_beats 35 = .ok (.if_icmp .ge 17, 3) := by decide +kernel
theorem dX6_beats_38 : decode cX6_beats 38 = .ok (.aload_n 0, 1) := by decide +kernel
theorem dX6_beats_39 : decode cX6_beats 39 = .ok (.invokevirtual 148, 3) := by decide +kernel
theorem dX6_beats_42 : decode cX6_beats 42 = .ok (.aload_n 0, 1) := by decide +kernel
theorem dX6_beats_43 : decode cX6_beats 43 = .ok (.invokevirtual 151, 3) := by decide +kernel
theorem dX6_beats_46 : decode cX6_beats 46 = .ok (.iinc 2 1, 3) := by decide +kernel
theorem dX6_beats_49 : decode cX6_beats 49 = .ok (.goto (-16), 3) := by decide +kernel
theorem dX6_beats_52 : decode cX6_beats 52 = .ok (.aload_n 0, 1) := by decide +kernel
theorem dX6_beats_53 : decode cX6_beats 53 = .ok (.invokevirtual 78, 3) := by decide +kernel
theorem dX6_beats_56 : decode cX6_beats 56 = .ok (.ireturn, 1) := by decide +kernel
theorem dX6_draught_0 : decode cX6_draught 0 = .ok (.iload_n 1, 1) := by decide +kernel
theorem dX6_draught_1 : decode cX6_draught 1 = .ok (.i2l, 1) := by decide +kernel
theorem dX6_draught_2 : decode cX6_draught 2 = .ok (.lconst 1, 1) := by decide +kernel
theorem dX6_draught_3 : decode cX6_draught 3 = .ok (.ldc2_w 50, 3) := by decide +kernel
theorem dX6_draught_6 : decode cX6_draught 6 = .ok (.invokestatic 52, 3) := by decide +kernel
theorem dX6_draught_9 : decode cX6_draught 9 = .ok (.ifCond .ne 5, 3) := by decide +kernel
theorem dX6_draught_12 : decode cX6_draught 12 = .ok (.iconst (-1), 1) := by decide +kernel
theorem dX6_draught_13 : decode cX6_draught 13 = .ok (.ireturn, 1) := by decide +kernel
theorem dX6_draught_14 : decode cX6_draught 14 = .ok (.aload_n 0, 1) := by decide +kernel
theorem dX6_draught_15 : decode cX6_draught 15 = .ok (.invokevirtual 148, 3) := by decide +kernel
theorem dX6_draught_18 : decode cX6_draught 18 = .ok (.aload_n 0, 1) := by decide +kernel
theorem dX6_draught_19 : decode cX6_draught 19 = .ok (.iload_n 1, 1) := by decide +kernel
theorem dX6_draught_20 : decode cX6_draught 20 = .ok (.invokevirtual 154, 3) := by decide +kernel
theorem dX6_draught_23 : decode cX6_draught 23 = .ok (.aload_n 0, 1) := by decide +kernel
theorem dX6_draught_24 : decode cX6_draught 24 = .ok (.invokevirtual 78, 3) := by decide +kernel
theorem dX6_draught_27 : decode cX6_draught 27 = .ok (.ireturn, 1) := by decide +kernel
theorem dX6_leave_0 : decode cX6_leave 0 = .ok (.aload_n 0, 1) := by decide +kernel
theorem dX6_leave_1 : decode cX6_leave 1 = .ok (.iload_n 1, 1) := by decide +kernel
theorem dX6_leave_2 : decode cX6_leave 2 = .ok (.invokevirtual 100, 3) := by decide +kernel
theorem dX6_leave_5 : decode cX6_leave 5 = .ok (.ifCond .ne 5, 3) := by decide +kernel
theorem dX6_leave_8 : decode cX6_leave 8 = .ok (.iconst (-1), 1) := by decide +kernel
theorem dX6_leave_9 : decode cX6_leave 9 = .ok (.ireturn, 1) := by decide +kernel
theorem dX6_leave_10 : decode cX6_leave 10 = .ok (.aload_n 0, 1) := by decide +kernel
theorem dX6_leave_11 : decode cX6_leave 11 = .ok (.getfield 7, 3) := by decide +kernel
theorem dX6_leave_14 : decode cX6_leave 14 = .ok (.iconst 5, 1) := by decide +kernel
theorem dX6_leave_15 : decode cX6_leave 15 = .ok (.iload_n 1, 1) := by decide +kernel
theorem dX6_leave_16 : decode cX6_leave 16 = .ok (.iadd, 1) := by decide +kernel
theorem dX6_leave_17 : decode cX6_leave 17 = .ok (.iaload, 1) := by decide +kernel
theorem dX6_leave_18 : decode cX6_leave 18 = .ok (.istore_n 2, 1) := by decide +kernel
theorem dX6_leave_19 : decode cX6_leave 19 = .ok (.iload_n 2, 1) := by decide +kernel
theorem dX6_leave_20 : decode cX6_leave 20 = .ok (.bipush (-4), 2) := by decide +kernel
theorem dX6_leave_22 : decode cX6_leave 22 = .ok (.if_icmp .ne 6, 3) := by decide +kernel
theorem dX6_leave_25 : decode cX6_leave 25 = .ok (.bipush (-2), 2) := by decide +kernel
theorem dX6_leave_27 : decode cX6_leave 27 = .ok (.ireturn, 1) := by decide +kernel
theorem dX6_leave_28 : decode cX6_leave 28 = .ok (.aload_n 0, 1) := by decide +kernel
theorem dX6_leave_29 : decode cX6_leave 29 = .ok (.invokevirtual 148, 3) := by decide +kernel
theorem dX6_leave_32 : decode cX6_leave 32 = .ok (.aload_n 0, 1) := by decide +kernel
theorem dX6_leave_33 : decode cX6_leave 33 = .ok (.getfield 7, 3) := by decide +kernel
theorem dX6_leave_36 : decode cX6_leave 36 = .ok (.iconst 5, 1) := by decide +kernel
theorem dX6_leave_37 : decode cX6_leave 37 = .ok (.iload_n 1, 1) := by decide +kernel
theorem dX6_leave_38 : decode cX6_leave 38 = .ok (.iadd, 1) := by decide +kernel
theorem dX6_leave_39 : decode cX6_leave 39 = .ok (.bipush (-4), 2) := by decide +kernel
theorem dX6_leave_41 : decode cX6_leave 41 = .ok (.iastore, 1) := by decide +kernel
theorem dX6_leave_42 : decode cX6_leave 42 = .ok (.iload_n 2, 1) := by decide +kernel
theorem dX6_leave_43 : decode cX6_leave 43 = .ok (.ireturn, 1) := by decide +kernel
theorem dX6_come_0 : decode cX6_come 0 = .ok (.aload_n 0, 1) := by decide +kernel
theorem dX6_come_1 : decode cX6_come 1 = .ok (.iload_n 1, 1) := by decide +kernel
theorem dX6_come_2 : decode cX6_come 2 = .ok (.invokevirtual 100, 3) := by decide +kernel
theorem dX6_come_5 : decode cX6_come 5 = .ok (.ifCond .eq 10, 3) := by decide +kernel
theorem dX6_come_8 : decode cX6_come 8 = .ok (.iload_n 2, 1) := by decide +kernel
theorem dX6_come_9 : decode cX6_come 9 = .ok (.invokestatic 74, 3) := by decide +kernel
theorem dX6_come_12 : decode cX6_come 12 = .ok (.ifCond .ne 5, 3) := by decide +kernel
theorem dX6_come_15 : decode cX6_come 15 = .ok (.iconst (-1), 1) := by decide +kernel
theorem dX6_come_16 : decode cX6_come 16 = .ok (.ireturn, 1) := by decide +kernel
theorem dX6_come_17 : decode cX6_come 17 = .ok (.aload_n 0, 1) := by decide +kernel
theorem dX6_come_18 : decode cX6_come 18 = .ok (.getfield 7, 3) := by decide +kernel
theorem dX6_come_21 : decode cX6_come 21 = .ok (.iconst 5, 1) := by decide +kernel
theorem dX6_come_22 : decode cX6_come 22 = .ok (.iload_n 1, 1) := by decide +kernel
theorem dX6_come_23 : decode cX6_come 23 = .ok (.iadd, 1) := by decide +kernel
theorem dX6_come_24 : decode cX6_come 24 = .ok (.iaload, 1) := by decide +kernel
theorem dX6_come_25 : decode cX6_come 25 = .ok (.bipush (-4), 2) := by decide +kernel
theorem dX6_come_27 : decode cX6_come 27 = .ok (.if_icmp .ne 14, 3) := by decide +kernel
theorem dX6_come_30 : decode cX6_come 30 = .ok (.aload_n 0, 1) := by decide +kernel
theorem dX6_come_31 : decode cX6_come 31 = .ok (.invokevirtual 78, 3) := by decide +kernel
theorem dX6_come_34 : decode cX6_come 34 = .ok (.iload_n 2, 1) := by decide +kernel
theorem dX6_come_35 : decode cX6_come 35 = .ok (.invokestatic 82, 3) := by decide +kernel
theorem dX6_come_38 : decode cX6_come 38 = .ok (.ifCond .eq 6, 3) := by decide +kernel
theorem dX6_come_41 : decode cX6_come 41 = .ok (.bipush (-2), 2) := by decide +kernel
theorem dX6_come_43 : decode cX6_come 43 = .ok (.ireturn, 1) := by decide +kernel
theorem dX6_come_44 : decode cX6_come 44 = .ok (.aload_n 0, 1) := by decide +kernel
theorem dX6_come_45 : decode cX6_come 45 = .ok (.invokevirtual 148, 3) := by decide +kernel
theorem dX6_come_48 : decode cX6_come 48 = .ok (.aload_n 0, 1) := by decide +kernel
theorem dX6_come_49 : decode cX6_come 49 = .ok (.getfield 7, 3) := by decide +kernel
theorem dX6_come_52 : decode cX6_come 52 = .ok (.iconst 5, 1) := by decide +kernel
theorem dX6_come_53 : decode cX6_come 53 = .ok (.iload_n 1, 1) := by decide +kernel
theorem dX6_come_54 : decode cX6_come 54 = .ok (.iadd, 1) := by decide +kernel
theorem dX6_come_55 : decode cX6_come 55 = .ok (.iload_n 2, 1) := by decide +kernel
theorem dX6_come_56 : decode cX6_come 56 = .ok (.iastore, 1) := by decide +kernel
theorem dX6_come_57 : decode cX6_come 57 = .ok (.aload_n 0, 1) := by decide +kernel
theorem dX6_come_58 : decode cX6_come 58 = .ok (.invokevirtual 78, 3) := by decide +kernel
theorem dX6_come_61 : decode cX6_come 61 = .ok (.invokestatic 158, 3) := by decide +kernel
theorem dX6_come_64 : decode cX6_come 64 = .ok (.ireturn, 1) := by decide +kernel
theorem dX6_drift_0 : decode cX6_drift 0 = .ok (.iload_n 1, 1) := by decide +kernel
theorem dX6_drift_1 : decode cX6_drift 1 = .ok (.i2l, 1) := by decide +kernel
theorem dX6_drift_2 : decode cX6_drift 2 = .ok (.lconst 1, 1) := by decide +kernel
theorem dX6_drift_3 : decode cX6_drift 3 = .ok (.ldc2_w 146, 3) := by decide +kernel
theorem dX6_drift_6 : decode cX6_drift 6 = .ok (.invokestatic 52, 3) := by decide +kernel
theorem dX6_drift_9 : decode cX6_drift 9 = .ok (.ifCond .ne 5, 3) := by decide +kernel
theorem dX6_drift_12 : decode cX6_drift 12 = .ok (.iconst (-1), 1) := by decide +kernel
theorem dX6_drift_13 : decode cX6_drift 13 = .ok (.ireturn, 1) := by decide +kernel
theorem dX6_drift_14 : decode cX6_drift 14 = .ok (.aload_n 0, 1) := by decide +kernel
theorem dX6_drift_15 : decode cX6_drift 15 = .ok (.getfield 7, 3) := by decide +kernel
theorem dX6_drift_18 : decode cX6_drift 18 = .ok (.iconst 3, 1) := by decide +kernel
theorem dX6_drift_19 : decode cX6_drift 19 = .ok (.iaload, 1) := by decide +kernel
theorem dX6_drift_20 : decode cX6_drift 20 = .ok (.iload_n 1, 1) := by decide +kernel
theorem dX6_drift_21 : decode cX6_drift 21 = .ok (.iadd, 1) := by decide +kernel
theorem dX6_drift_22 : decode cX6_drift 22 = .ok (.sipush 9999, 3) := by decide +kernel
theorem dX6_drift_25 : decode cX6_drift 25 = .ok (.if_icmp .le 6, 3) := by decide +kernel
theorem dX6_drift_28 : decode cX6_drift 28 = .ok (.bipush (-3), 2) := by decide +kernel
theorem dX6_drift_30 : decode cX6_drift 30 = .ok (.ireturn, 1) := by decide +kernel
theorem dX6_drift_31 : decode cX6_drift 31 = .ok (.iconst 0, 1) := by decide +kernel
theorem dX6_drift_32 : decode cX6_drift 32 = .ok (.istore_n 2, 1) := by decide +kernel
theorem dX6_drift_33 : decode cX6_drift 33 = .ok (.iload_n 2, 1) := by decide +kernel
theorem dX6_drift_34 : decode cX6_drift 34 = .ok (.iload_n 1, 1) := by decide +kernel
theorem dX6_drift_35 : decode cX6_drift 35 = .ok (.if_icmp .ge 76, 3) := by decide +kernel
theorem dX6_drift_38 : decode cX6_drift 38 = .ok (.aload_n 0, 1) := by decide +kernel
theorem dX6_drift_39 : decode cX6_drift 39 = .ok (.invokevirtual 148, 3) := by decide +kernel
theorem dX6_drift_42 : decode cX6_drift 42 = .ok (.aload_n 0, 1) := by decide +kernel
theorem dX6_drift_43 : decode cX6_drift 43 = .ok (.getfield 7, 3) := by decide +kernel
theorem dX6_drift_46 : decode cX6_drift 46 = .ok (.iconst 4, 1) := by decide +kernel
theorem dX6_drift_47 : decode cX6_drift 47 = .ok (.aload_n 0, 1) := by decide +kernel
theorem dX6_drift_48 : decode cX6_drift 48 = .ok (.getfield 7, 3) := by decide +kernel
theorem dX6_drift_51 : decode cX6_drift 51 = .ok (.iconst 4, 1) := by decide +kernel
theorem dX6_drift_52 : decode cX6_drift 52 = .ok (.iaload, 1) := by decide +kernel
theorem dX6_drift_53 : decode cX6_drift 53 = .ok (.i2l, 1) := by decide +kernel
theorem dX6_drift_54 : decode cX6_drift 54 = .ok (.ldc2_w 161, 3) := by decide +kernel
theorem dX6_drift_57 : decode cX6_drift 57 = .ok (.lmul, 1) := by decide +kernel
theorem dX6_drift_58 : decode cX6_drift 58 = .ok (.ldc2_w 163, 3) := by decide +kernel
theorem dX6_drift_61 : decode cX6_drift 61 = .ok (.ladd, 1) := by decide +kernel
theorem dX6_drift_62 : decode cX6_drift 62 = .ok (.ldc2_w 165, 3) := by decide +kernel
theorem dX6_drift_65 : decode cX6_drift 65 = .ok (.lrem, 1) := by decide +kernel
theorem dX6_drift_66 : decode cX6_drift 66 = .ok (.l2i, 1) := by decide +kernel
theorem dX6_drift_67 : decode cX6_drift 67 = .ok (.iastore, 1) := by decide +kernel
theorem dX6_drift_68 : decode cX6_drift 68 = .ok (.aload_n 0, 1) := by decide +kernel
theorem dX6_drift_69 : decode cX6_drift 69 = .ok (.getfield 7, 3) := by decide +kernel
theorem dX6_drift_72 : decode cX6_drift 72 = .ok (.iconst 4, 1) := by decide +kernel
theorem dX6_drift_73 : decode cX6_drift 73 = .ok (.iaload, 1) := by decide +kernel
theorem dX6_drift_74 : decode cX6_drift 74 = .ok (.ldc 167, 2) := by decide +kernel
theorem dX6_drift_76 : decode cX6_drift 76 = .ok (.idiv, 1) := by decide +kernel
theorem dX6_drift_77 : decode cX6_drift 77 = .ok (.iconst 4, 1) := by decide +kernel
theorem dX6_drift_78 : decode cX6_drift 78 = .ok (.irem, 1) := by decide +kernel
theorem dX6_drift_79 : decode cX6_drift 79 = .ok (.ifCond .ne 22, 3) := by decide +kernel
theorem dX6_drift_82 : decode cX6_drift 82 = .ok (.aload_n 0, 1) := by decide +kernel
theorem dX6_drift_83 : decode cX6_drift 83 = .ok (.iconst 1, 1) := by decide +kernel
theorem dX6_drift_84 : decode cX6_drift 84 = .ok (.aload_n 0, 1) := by decide +kernel
theorem dX6_drift_85 : decode cX6_drift 85 = .ok (.getfield 7, 3) := by decide +kernel
theorem dX6_drift_88 : decode cX6_drift 88 = .ok (.iconst 4, 1) := by decide +kernel
theorem dX6_drift_89 : decode cX6_drift 89 = .ok (.iaload, 1) := by decide +kernel
theorem dX6_drift_90 : decode cX6_drift 90 = .ok (.sipush 128, 3) := by decide +kernel
theorem dX6_drift_93 : decode cX6_drift 93 = .ok (.idiv, 1) := by decide +kernel
theorem dX6_drift_94 : decode cX6_drift 94 = .ok (.bipush 7, 2) := by decide +kernel
theorem dX6_drift_96 : decode cX6_drift 96 = .ok (.irem, 1) := by decide +kernel
theorem dX6_drift_97 : decode cX6_drift 97 = .ok (.iadd, 1) := by decide +kernel
theorem dX6_drift_98 : decode cX6_drift 98 = .ok (.invokevirtual 154, 3) := by decide +kernel
theorem dX6_drift_101 : decode cX6_drift 101 = .ok (.aload_n 0, 1) := by decide +kernel
theorem dX6_drift_102 : decode cX6_drift 102 = .ok (.invokevirtual 151, 3) := by decide +kernel
theorem dX6_drift_105 : decode cX6_drift 105 = .ok (.iinc 2 1, 3) := by decide +kernel
theorem dX6_drift_108 : decode cX6_drift 108 = .ok (.goto (-75), 3) := by decide +kernel
theorem dX6_drift_111 : decode cX6_drift 111 = .ok (.aload_n 0, 1) := by decide +kernel
theorem dX6_drift_112 : decode cX6_drift 112 = .ok (.invokevirtual 78, 3) := by decide +kernel
theorem dX6_drift_115 : decode cX6_drift 115 = .ok (.ireturn, 1) := by decide +kernel
theorem dX6_undo_0 : decode cX6_undo 0 = .ok (.aload_n 0, 1) := by decide +kernel
theorem dX6_undo_1 : decode cX6_undo 1 = .ok (.getfield 7, 3) := by decide +kernel
theorem dX6_undo_4 : decode cX6_undo 4 = .ok (.bipush 39, 2) := by decide +kernel
theorem dX6_undo_6 : decode cX6_undo 6 = .ok (.iaload, 1) := by decide +kernel
theorem dX6_undo_7 : decode cX6_undo 7 = .ok (.ifCond .ne 6, 3) := by decide +kernel
theorem dX6_undo_10 : decode cX6_undo 10 = .ok (.bipush (-4), 2) := by decide +kernel
theorem dX6_undo_12 : decode cX6_undo 12 = .ok (.ireturn, 1) := by decide +kernel
theorem dX6_undo_13 : decode cX6_undo 13 = .ok (.aload_n 0, 1) := by decide +kernel
theorem dX6_undo_14 : decode cX6_undo 14 = .ok (.getfield 7, 3) := by decide +kernel
theorem dX6_undo_17 : decode cX6_undo 17 = .ok (.bipush 39, 2) := by decide +kernel
theorem dX6_undo_19 : decode cX6_undo 19 = .ok (.dup2, 1) := by decide +kernel
theorem dX6_undo_20 : decode cX6_undo 20 = .ok (.iaload, 1) := by decide +kernel
theorem dX6_undo_21 : decode cX6_undo 21 = .ok (.iconst 1, 1) := by decide +kernel
theorem dX6_undo_22 : decode cX6_undo 22 = .ok (.isub, 1) := by decide +kernel
theorem dX6_undo_23 : decode cX6_undo 23 = .ok (.iastore, 1) := by decide +kernel
theorem dX6_undo_24 : decode cX6_undo 24 = .ok (.aload_n 0, 1) := by decide +kernel
theorem dX6_undo_25 : decode cX6_undo 25 = .ok (.bipush 40, 2) := by decide +kernel
theorem dX6_undo_27 : decode cX6_undo 27 = .ok (.bipush 10, 2) := by decide +kernel
theorem dX6_undo_29 : decode cX6_undo 29 = .ok (.aload_n 0, 1) := by decide +kernel
theorem dX6_undo_30 : decode cX6_undo 30 = .ok (.getfield 7, 3) := by decide +kernel
theorem dX6_undo_33 : decode cX6_undo 33 = .ok (.bipush 39, 2) := by decide +kernel
theorem dX6_undo_35 : decode cX6_undo 35 = .ok (.iaload, 1) := by decide +kernel
theorem dX6_undo_36 : decode cX6_undo 36 = .ok (.imul, 1) := by decide +kernel
theorem dX6_undo_37 : decode cX6_undo 37 = .ok (.iadd, 1) := by decide +kernel
theorem dX6_undo_38 : decode cX6_undo 38 = .ok (.iconst 3, 1) := by decide +kernel
theorem dX6_undo_39 : decode cX6_undo 39 = .ok (.bipush 10, 2) := by decide +kernel
theorem dX6_undo_41 : decode cX6_undo 41 = .ok (.invokevirtual 139, 3) := by decide +kernel
theorem dX6_undo_44 : decode cX6_undo 44 = .ok (.aload_n 0, 1) := by decide +kernel
theorem dX6_undo_45 : decode cX6_undo 45 = .ok (.getfield 7, 3) := by decide +kernel
theorem dX6_undo_48 : decode cX6_undo 48 = .ok (.bipush 39, 2) := by decide +kernel
theorem dX6_undo_50 : decode cX6_undo 50 = .ok (.iaload, 1) := by decide +kernel
theorem dX6_undo_51 : decode cX6_undo 51 = .ok (.ireturn, 1) := by decide +kernel
theorem dX6_seed_0 : decode cX6_seed 0 = .ok (.iload_n 1, 1) := by decide +kernel
theorem dX6_seed_1 : decode cX6_seed 1 = .ok (.ifCond .ge 5, 3) := by decide +kernel
theorem dX6_seed_4 : decode cX6_seed 4 = .ok (.iconst (-1), 1) := by decide +kernel
theorem dX6_seed_5 : decode cX6_seed 5 = .ok (.ireturn, 1) := by decide +kernel
theorem dX6_seed_6 : decode cX6_seed 6 = .ok (.aload_n 0, 1) := by decide +kernel
theorem dX6_seed_7 : decode cX6_seed 7 = .ok (.getfield 7, 3) := by decide +kernel
theorem dX6_seed_10 : decode cX6_seed 10 = .ok (.iconst 4, 1) := by decide +kernel
theorem dX6_seed_11 : decode cX6_seed 11 = .ok (.iaload, 1) := by decide +kernel
theorem dX6_seed_12 : decode cX6_seed 12 = .ok (.istore_n 2, 1) := by decide +kernel
theorem dX6_seed_13 : decode cX6_seed 13 = .ok (.aload_n 0, 1) := by decide +kernel
theorem dX6_seed_14 : decode cX6_seed 14 = .ok (.getfield 7, 3) := by decide +kernel
theorem dX6_seed_17 : decode cX6_seed 17 = .ok (.iconst 4, 1) := by decide +kernel
theorem dX6_seed_18 : decode cX6_seed 18 = .ok (.iload_n 1, 1) := by decide +kernel
theorem dX6_seed_19 : decode cX6_seed 19 = .ok (.iastore, 1) := by decide +kernel
theorem dX6_seed_20 : decode cX6_seed 20 = .ok (.iload_n 2, 1) := by decide +kernel
theorem dX6_seed_21 : decode cX6_seed 21 = .ok (.ireturn, 1) := by decide +kernel
theorem dX6_goesBy_0 : decode cX6_goesBy 0 = .ok (.iload_n 1, 1) := by decide +kernel
theorem dX6_goesBy_1 : decode cX6_goesBy 1 = .ok (.istore_n 3, 1) := by decide +kernel
theorem dX6_goesBy_2 : decode cX6_goesBy 2 = .ok (.iconst 0, 1) := by decide +kernel
theorem dX6_goesBy_3 : decode cX6_goesBy 3 = .ok (.istore 4, 2) := by decide +kernel
theorem dX6_goesBy_5 : decode cX6_goesBy 5 = .ok (.iload 4, 2) := by decide +kernel
theorem dX6_goesBy_7 : decode cX6_goesBy 7 = .ok (.iload_n 2, 1) := by decide +kernel
theorem dX6_goesBy_8 : decode cX6_goesBy 8 = .ok (.if_icmp .ge 39, 3) := by decide +kernel
theorem dX6_goesBy_11 : decode cX6_goesBy 11 = .ok (.aload_n 0, 1) := by decide +kernel
theorem dX6_goesBy_12 : decode cX6_goesBy 12 = .ok (.aload_n 0, 1) := by decide +kernel
theorem dX6_goesBy_13 : decode cX6_goesBy 13 = .ok (.getfield 7, 3) := by decide +kernel
theorem dX6_goesBy_16 : decode cX6_goesBy 16 = .ok (.bipush 23, 2) := by decide +kernel
theorem dX6_goesBy_18 : decode cX6_goesBy 18 = .ok (.aload_n 0, 1) := by decide +kernel
theorem dX6_goesBy_19 : decode cX6_goesBy 19 = .ok (.getfield 7, 3) := by decide +kernel
theorem dX6_goesBy_22 : decode cX6_goesBy 22 = .ok (.iconst 3, 1) := by decide +kernel
theorem dX6_goesBy_23 : decode cX6_goesBy 23 = .ok (.iaload, 1) := by decide +kernel
theorem dX6_goesBy_24 : decode cX6_goesBy 24 = .ok (.iload 4, 2) := by decide +kernel
theorem dX6_goesBy_26 : decode cX6_goesBy 26 = .ok (.iadd, 1) := by decide +kernel
theorem dX6_goesBy_27 : decode cX6_goesBy 27 = .ok (.aload_n 0, 1) := by decide +kernel
theorem dX6_goesBy_28 : decode cX6_goesBy 28 = .ok (.getfield 7, 3) := by decide +kernel
theorem dX6_goesBy_31 : decode cX6_goesBy 31 = .ok (.iconst 2, 1) := by decide +kernel
theorem dX6_goesBy_32 : decode cX6_goesBy 32 = .ok (.iaload, 1) := by decide +kernel
theorem dX6_goesBy_33 : decode cX6_goesBy 33 = .ok (.irem, 1) := by decide +kernel
theorem dX6_goesBy_34 : decode cX6_goesBy 34 = .ok (.iadd, 1) := by decide +kernel
theorem dX6_goesBy_35 : decode cX6_goesBy 35 = .ok (.iaload, 1) := by decide +kernel
theorem dX6_goesBy_36 : decode cX6_goesBy 36 = .ok (.iload_n 3, 1) := by decide +kernel
theorem dX6_goesBy_37 : decode cX6_goesBy 37 = .ok (.invokevirtual 67, 3) := by decide +kernel
theorem dX6_goesBy_40 : decode cX6_goesBy 40 = .ok (.istore_n 3, 1) := by decide +kernel
theorem dX6_goesBy_41 : decode cX6_goesBy 41 = .ok (.iinc 4 1, 3) := by decide +kernel
theorem dX6_goesBy_44 : decode cX6_goesBy 44 = .ok (.goto (-39), 3) := by decide +kernel
theorem dX6_goesBy_47 : decode cX6_goesBy 47 = .ok (.iload_n 3, 1) := by decide +kernel
theorem dX6_goesBy_48 : decode cX6_goesBy 48 = .ok (.ireturn, 1) := by decide +kernel
theorem dX6_ringOf_0 : decode cX6_ringOf 0 = .ok (.iconst 1, 1) := by decide +kernel
theorem dX6_ringOf_1 : decode cX6_ringOf 1 = .ok (.istore_n 2, 1) := by decide +kernel
theorem dX6_ringOf_2 : decode cX6_ringOf 2 = .ok (.aload_n 0, 1) := by decide +kernel
theorem dX6_ringOf_3 : decode cX6_ringOf 3 = .ok (.iload_n 1, 1) := by decide +kernel
theorem dX6_ringOf_4 : decode cX6_ringOf 4 = .ok (.aload_n 0, 1) := by decide +kernel
theorem dX6_ringOf_5 : decode cX6_ringOf 5 = .ok (.getfield 7, 3) := by decide +kernel
theorem dX6_ringOf_8 : decode cX6_ringOf 8 = .ok (.iconst 2, 1) := by decide +kernel
theorem dX6_ringOf_9 : decode cX6_ringOf 9 = .ok (.iaload, 1) := by decide +kernel
theorem dX6_ringOf_10 : decode cX6_ringOf 10 = .ok (.invokevirtual 168, 3) := by decide +kernel
theorem dX6_ringOf_13 : decode cX6_ringOf 13 = .ok (.istore_n 3, 1) := by decide +kernel
theorem dX6_ringOf_14 : decode cX6_ringOf 14 = .ok (.iload_n 3, 1) := by decide +kernel
theorem dX6_ringOf_15 : decode cX6_ringOf 15 = .ok (.iload_n 1, 1) := by decide +kernel
theorem dX6_ringOf_16 : decode cX6_ringOf 16 = .ok (.if_icmp .eq 21, 3) := by decide +kernel
theorem dX6_ringOf_19 : decode cX6_ringOf 19 = .ok (.aload_n 0, 1) := by decide +kernel
theorem dX6_ringOf_20 : decode cX6_ringOf 20 = .ok (.iload_n 3, 1) := by decide +kernel
theorem dX6_ringOf_21 : decode cX6_ringOf 21 = .ok (.aload_n 0, 1) := by decide +kernel
theorem dX6_ringOf_22 : decode cX6_ringOf 22 = .ok (.getfield 7, 3) := by decide +kernel
theorem dX6_ringOf_25 : decode cX6_ringOf 25 = .ok (.iconst 2, 1) := by decide +kernel
theorem dX6_ringOf_26 : decode cX6_ringOf 26 = .ok (.iaload, 1) := by decide +kernel
theorem dX6_ringOf_27 : decode cX6_ringOf 27 = .ok (.invokevirtual 168, 3) := by decide +kernel
theorem dX6_ringOf_30 : decode cX6_ringOf 30 = .ok (.istore_n 3, 1) := by decide +kernel
theorem dX6_ringOf_31 : decode cX6_ringOf 31 = .ok (.iinc 2 1, 3) := by decide +kernel
theorem dX6_ringOf_34 : decode cX6_ringOf 34 = .ok (.goto (-20), 3) := by decide +kernel
theorem dX6_ringOf_37 : decode cX6_ringOf 37 = .ok (.iload_n 2, 1) := by decide +kernel
theorem dX6_ringOf_38 : decode cX6_ringOf 38 = .ok (.ireturn, 1) := by decide +kernel
theorem dX6_behind_0 : decode cX6_behind 0 = .ok (.iload_n 1, 1) := by decide +kernel
theorem dX6_behind_1 : decode cX6_behind 1 = .ok (.bipush (-4), 2) := by decide +kernel
theorem dX6_behind_3 : decode cX6_behind 3 = .ok (.if_icmp .eq 12, 3) := by decide +kernel
theorem dX6_behind_6 : decode cX6_behind 6 = .ok (.aload_n 0, 1) := by decide +kernel
theorem dX6_behind_7 : decode cX6_behind 7 = .ok (.getfield 7, 3) := by decide +kernel
theorem dX6_behind_10 : decode cX6_behind 10 = .ok (.iconst 2, 1) := by decide +kernel
theorem dX6_behind_11 : decode cX6_behind 11 = .ok (.iaload, 1) := by decide +kernel
theorem dX6_behind_12 : decode cX6_behind 12 = .ok (.ifCond .ne 5, 3) := by decide +kernel
theorem dX6_behind_15 : decode cX6_behind 15 = .ok (.iload_n 1, 1) := by decide +kernel
theorem dX6_behind_16 : decode cX6_behind 16 = .ok (.ireturn, 1) := by decide +kernel
theorem dX6_behind_17 : decode cX6_behind 17 = .ok (.iload_n 1, 1) := by decide +kernel
theorem dX6_behind_18 : decode cX6_behind 18 = .ok (.istore_n 3, 1) := by decide +kernel
theorem dX6_behind_19 : decode cX6_behind 19 = .ok (.iload_n 2, 1) := by decide +kernel
theorem dX6_behind_20 : decode cX6_behind 20 = .ok (.aload_n 0, 1) := by decide +kernel
theorem dX6_behind_21 : decode cX6_behind 21 = .ok (.getfield 7, 3) := by decide +kernel
theorem dX6_behind_24 : decode cX6_behind 24 = .ok (.iconst 2, 1) := by decide +kernel
theorem dX6_behind_25 : decode cX6_behind 25 = .ok (.iaload, 1) := by decide +kernel
theorem dX6_behind_26 : decode cX6_behind 26 = .ok (.idiv, 1) := by decide +kernel
theorem dX6_behind_27 : decode cX6_behind 27 = .ok (.aload_n 0, 1) := by decide +kernel
theorem dX6_behind_28 : decode cX6_behind 28 = .ok (.iload_n 1, 1) := by decide +kernel
theorem dX6_behind_29 : decode cX6_behind 29 = .ok (.invokevirtual 171, 3) := by decide +kernel
theorem dX6_behind_32 : decode cX6_behind 32 = .ok (.irem, 1) := by decide +kernel
theorem dX6_behind_33 : decode cX6_behind 33 = .ok (.istore 4, 2) := by decide +kernel
theorem dX6_behind_35 : decode cX6_behind 35 = .ok (.iconst 0, 1) := by decide +kernel
theorem dX6_behind_36 : decode cX6_behind 36 = .ok (.istore 5, 2) := by decide +kernel
theorem dX6_behind_38 : decode cX6_behind 38 = .ok (.iload 5, 2) := by decide +kernel
theorem dX6_behind_40 : decode cX6_behind 40 = .ok (.iload 4, 2) := by decide +kernel
theorem dX6_behind_42 : decode cX6_behind 42 = .ok (.if_icmp .ge 21, 3) := by decide +kernel
theorem dX6_behind_45 : decode cX6_behind 45 = .ok (.aload_n 0, 1) := by decide +kernel
theorem dX6_behind_46 : decode cX6_behind 46 = .ok (.iload_n 3, 1) := by decide +kernel
theorem dX6_behind_47 : decode cX6_behind 47 = .ok (.aload_n 0, 1) := by decide +kernel
theorem dX6_behind_48 : decode cX6_behind 48 = .ok (.getfield 7, 3) := by decide +kernel
theorem dX6_behind_51 : decode cX6_behind 51 = .ok (.iconst 2, 1) := by decide +kernel
theorem dX6_behind_52 : decode cX6_behind 52 = .ok (.iaload, 1) := by decide +kernel
theorem dX6_behind_53 : decode cX6_behind 53 = .ok (.invokevirtual 168, 3) := by decide +kernel
theorem dX6_behind_56 : decode cX6_behind 56 = .ok (.istore_n 3, 1) := by decide +kernel
theorem dX6_behind_57 : decode cX6_behind 57 = .ok (.iinc 5 1, 3) := by decide +kernel
theorem dX6_behind_60 : decode cX6_behind 60 = .ok (.goto (-22), 3) := by decide +kernel
theorem dX6_behind_63 : decode cX6_behind 63 = .ok (.aload_n 0, 1) := by decide +kernel
theorem dX6_behind_64 : decode cX6_behind 64 = .ok (.iload_n 3, 1) := by decide +kernel
theorem dX6_behind_65 : decode cX6_behind 65 = .ok (.iload_n 2, 1) := by decide +kernel
theorem dX6_behind_66 : decode cX6_behind 66 = .ok (.aload_n 0, 1) := by decide +kernel
theorem dX6_behind_67 : decode cX6_behind 67 = .ok (.getfield 7, 3) := by decide +kernel
theorem dX6_behind_70 : decode cX6_behind 70 = .ok (.iconst 2, 1) := by decide +kernel
theorem dX6_behind_71 : decode cX6_behind 71 = .ok (.iaload, 1) := by decide +kernel
theorem dX6_behind_72 : decode cX6_behind 72 = .ok (.irem, 1) := by decide +kernel
theorem dX6_behind_73 : decode cX6_behind 73 = .ok (.invokevirtual 168, 3) := by decide +kernel
theorem dX6_behind_76 : decode cX6_behind 76 = .ok (.ireturn, 1) := by decide +kernel
theorem dX6_isTime_0 : decode cX6_isTime 0 = .ok (.iload_n 0, 1) := by decide +kernel
theorem dX6_isTime_1 : decode cX6_isTime 1 = .ok (.i2l, 1) := by decide +kernel
theorem dX6_isTime_2 : decode cX6_isTime 2 = .ok (.lconst 0, 1) := by decide +kernel
theorem dX6_isTime_3 : decode cX6_isTime 3 = .ok (.ldc2_w 174, 3) := by decide +kernel
theorem dX6_isTime_6 : decode cX6_isTime 6 = .ok (.invokestatic 52, 3) := by decide +kernel
theorem dX6_isTime_9 : decode cX6_isTime 9 = .ok (.ireturn, 1) := by decide +kernel
theorem dX6_ahead_0 : decode cX6_ahead 0 = .ok (.aload_n 0, 1) := by decide +kernel
theorem dX6_ahead_1 : decode cX6_ahead 1 = .ok (.iload_n 1, 1) := by decide +kernel
theorem dX6_ahead_2 : decode cX6_ahead 2 = .ok (.invokevirtual 100, 3) := by decide +kernel
theorem dX6_ahead_5 : decode cX6_ahead 5 = .ok (.ifCond .eq 26, 3) := by decide +kernel
theorem dX6_ahead_8 : decode cX6_ahead 8 = .ok (.iload_n 2, 1) := by decide +kernel
theorem dX6_ahead_9 : decode cX6_ahead 9 = .ok (.invokestatic 176, 3) := by decide +kernel
theorem dX6_ahead_12 : decode cX6_ahead 12 = .ok (.ifCond .eq 19, 3) := by decide +kernel
theorem dX6_ahead_15 : decode cX6_ahead 15 = .ok (.aload_n 0, 1) := by decide +kernel
theorem dX6_ahead_16 : decode cX6_ahead 16 = .ok (.aload_n 0, 1) := by decide +kernel
theorem dX6_ahead_17 : decode cX6_ahead 17 = .ok (.getfield 7, 3) := by decide +kernel
theorem dX6_ahead_20 : decode cX6_ahead 20 = .ok (.iconst 5, 1) := by decide +kernel
theorem dX6_ahead_21 : decode cX6_ahead 21 = .ok (.iload_n 1, 1) := by decide +kernel
theorem dX6_ahead_22 : decode cX6_ahead 22 = .ok (.iadd, 1) := by decide +kernel
theorem dX6_ahead_23 : decode cX6_ahead 23 = .ok (.iaload, 1) := by decide +kernel
theorem dX6_ahead_24 : decode cX6_ahead 24 = .ok (.iload_n 2, 1) := by decide +kernel
theorem dX6_ahead_25 : decode cX6_ahead 25 = .ok (.invokevirtual 179, 3) := by decide +kernel
theorem dX6_ahead_28 : decode cX6_ahead 28 = .ok (.goto 4, 3) := by decide +kernel
theorem dX6_ahead_31 : decode cX6_ahead 31 = .ok (.iconst (-1), 1) := by decide +kernel
theorem dX6_ahead_32 : decode cX6_ahead 32 = .ok (.ireturn, 1) := by decide +kernel
theorem dX6_then_0 : decode cX6_then 0 = .ok (.iload_n 1, 1) := by decide +kernel
theorem dX6_then_1 : decode cX6_then 1 = .ok (.invokestatic 74, 3) := by decide +kernel
theorem dX6_then_4 : decode cX6_then 4 = .ok (.ifCond .eq 20, 3) := by decide +kernel
theorem dX6_then_7 : decode cX6_then 7 = .ok (.iload_n 2, 1) := by decide +kernel
theorem dX6_then_8 : decode cX6_then 8 = .ok (.invokestatic 176, 3) := by decide +kernel
theorem dX6_then_11 : decode cX6_then 11 = .ok (.ifCond .eq 13, 3) := by decide +kernel
theorem dX6_then_14 : decode cX6_then 14 = .ok (.iload_n 3, 1) := by decide +kernel
theorem dX6_then_15 : decode cX6_then 15 = .ok (.i2l, 1) := by decide +kernel
theorem dX6_then_16 : decode cX6_then 16 = .ok (.lconst 0, 1) := by decide +kernel
theorem dX6_then_17 : decode cX6_then 17 = .ok (.lconst 1, 1) := by decide +kernel
theorem dX6_then_18 : decode cX6_then 18 = .ok (.invokestatic 52, 3) := by decide +kernel
theorem dX6_then_21 : decode cX6_then 21 = .ok (.ifCond .ne 5, 3) := by decide +kernel
theorem dX6_then_24 : decode cX6_then 24 = .ok (.iconst (-1), 1) := by decide +kernel
theorem dX6_then_25 : decode cX6_then 25 = .ok (.ireturn, 1) := by decide +kernel
theorem dX6_then_26 : decode cX6_then 26 = .ok (.bipush (-4), 2) := by decide +kernel
theorem dX6_then_28 : decode cX6_then 28 = .ok (.istore 4, 2) := by decide +kernel
theorem dX6_then_30 : decode cX6_then 30 = .ok (.iconst 0, 1) := by decide +kernel
theorem dX6_then_31 : decode cX6_then 31 = .ok (.istore 5, 2) := by decide +kernel
theorem dX6_then_33 : decode cX6_then 33 = .ok (.iconst 0, 1) := by decide +kernel
theorem dX6_then_34 : decode cX6_then 34 = .ok (.istore 6, 2) := by decide +kernel
theorem dX6_then_36 : decode cX6_then 36 = .ok (.iload 6, 2) := by decide +kernel
theorem dX6_then_38 : decode cX6_then 38 = .ok (.aload_n 0, 1) := by decide +kernel
theorem dX6_then_39 : decode cX6_then 39 = .ok (.getfield 7, 3) := by decide +kernel
theorem dX6_then_42 : decode cX6_then 42 = .ok (.iconst 0, 1) := by decide +kernel
theorem dX6_then_43 : decode cX6_then 43 = .ok (.iaload, 1) := by decide +kernel
theorem dX6_then_44 : decode cX6_then 44 = .ok (.if_icmp .ge 60, 3) := by decide +kernel
theorem dX6_then_47 : decode cX6_then 47 = .ok (.aload_n 0, 1) := by decide +kernel
theorem dX6_then_48 : decode cX6_then 48 = .ok (.aload_n 0, 1) := by decide +kernel
theorem dX6_then_49 : decode cX6_then 49 = .ok (.getfield 7, 3) := by decide +kernel
theorem dX6_then_52 : decode cX6_then 52 = .ok (.iconst 5, 1) := by decide +kernel
theorem dX6_then_53 : decode cX6_then 53 = .ok (.iload 6, 2) := by decide +kernel
theorem dX6_then_55 : decode cX6_then 55 = .ok (.iadd, 1) := by decide +kernel
theorem dX6_then_56 : decode cX6_then 56 = .ok (.iaload, 1) := by decide +kernel
theorem dX6_then_57 : decode cX6_then 57 = .ok (.iload_n 2, 1) := by decide +kernel
theorem dX6_then_58 : decode cX6_then 58 = .ok (.invokevirtual 179, 3) := by decide +kernel
theorem dX6_then_61 : decode cX6_then 61 = .ok (.istore 7, 2) := by decide +kernel
theorem dX6_then_63 : decode cX6_then 63 = .ok (.iload 7, 2) := by decide +kernel
theorem dX6_then_65 : decode cX6_then 65 = .ok (.iload_n 1, 1) := by decide +kernel
theorem dX6_then_66 : decode cX6_then 66 = .ok (.if_icmp .ne 8, 3) := by decide +kernel
theorem dX6_then_69 : decode cX6_then 69 = .ok (.iload 6, 2) := by decide +kernel
theorem dX6_then_71 : decode cX6_then 71 = .ok (.goto 5, 3) := by decide +kernel
theorem dX6_then_74 : decode cX6_then 74 = .ok (.iload 4, 2) := by decide +kernel
theorem dX6_then_76 : decode cX6_then 76 = .ok (.istore 4, 2) := by decide +kernel
theorem dX6_then_78 : decode cX6_then 78 = .ok (.iload 5, 2) := by decide +kernel
theorem dX6_then_80 : decode cX6_then 80 = .ok (.iload 7, 2) := by decide +kernel
theorem dX6_then_82 : decode cX6_then 82 = .ok (.bipush (-4), 2) := by decide +kernel
theorem dX6_then_84 : decode cX6_then 84 = .ok (.if_icmp .ne 7, 3) := by decide +kernel
theorem dX6_then_87 : decode cX6_then 87 = .ok (.iconst 0, 1) := by decide +kernel
theorem dX6_then_88 : decode cX6_then 88 = .ok (.goto 7, 3) := by decide +kernel
theorem dX6_then_91 : decode cX6_then 91 = .ok (.iconst 1, 1) := by decide +kernel
theorem dX6_then_92 : decode cX6_then 92 = .ok (.iload 7, 2) := by decide +kernel
theorem dX6_then_94 : decode cX6_then 94 = .ok (.ishl, 1) := by decide +kernel
theorem dX6_then_95 : decode cX6_then 95 = .ok (.ior, 1) := by decide +kernel
theorem dX6_then_96 : decode cX6_then 96 = .ok (.istore 5, 2) := by decide +kernel
theorem dX6_then_98 : decode cX6_then 98 = .ok (.iinc 6 1, 3) := by decide +kernel
theorem dX6_then_101 : decode cX6_then 101 = .ok (.goto (-65), 3) := by decide +kernel
theorem dX6_then_104 : decode cX6_then 104 = .ok (.iload_n 3, 1) := by decide +kernel
theorem dX6_then_105 : decode cX6_then 105 = .ok (.ifCond .ne 8, 3) := by decide +kernel
theorem dX6_then_108 : decode cX6_then 108 = .ok (.iload 4, 2) := by decide +kernel
theorem dX6_then_110 : decode cX6_then 110 = .ok (.goto 9, 3) := by decide +kernel
theorem dX6_then_113 : decode cX6_then 113 = .ok (.iload 5, 2) := by decide +kernel
theorem dX6_then_115 : decode cX6_then 115 = .ok (.iload_n 1, 1) := by decide +kernel
theorem dX6_then_116 : decode cX6_then 116 = .ok (.invokestatic 103, 3) := by decide +kernel
theorem dX6_then_119 : decode cX6_then 119 = .ok (.ireturn, 1) := by decide +kernel
theorem dX6_back_0 : decode cX6_back 0 = .ok (.iload_n 1, 1) := by decide +kernel
theorem dX6_back_1 : decode cX6_back 1 = .ok (.iconst (-1), 1) := by decide +kernel
theorem dX6_back_2 : decode cX6_back 2 = .ok (.if_icmp .eq 13, 3) := by decide +kernel
theorem dX6_back_5 : decode cX6_back 5 = .ok (.aload_n 0, 1) := by decide +kernel
theorem dX6_back_6 : decode cX6_back 6 = .ok (.iload_n 1, 1) := by decide +kernel
theorem dX6_back_7 : decode cX6_back 7 = .ok (.invokevirtual 100, 3) := by decide +kernel
theorem dX6_back_10 : decode cX6_back 10 = .ok (.ifCond .ne 5, 3) := by decide +kernel
theorem dX6_back_13 : decode cX6_back 13 = .ok (.iconst (-1), 1) := by decide +kernel
theorem dX6_back_14 : decode cX6_back 14 = .ok (.ireturn, 1) := by decide +kernel
theorem dX6_back_15 : decode cX6_back 15 = .ok (.aload_n 0, 1) := by decide +kernel
theorem dX6_back_16 : decode cX6_back 16 = .ok (.getfield 7, 3) := by decide +kernel
theorem dX6_back_19 : decode cX6_back 19 = .ok (.iconst 2, 1) := by decide +kernel
theorem dX6_back_20 : decode cX6_back 20 = .ok (.iaload, 1) := by decide +kernel
theorem dX6_back_21 : decode cX6_back 21 = .ok (.ifCond .ne 5, 3) := by decide +kernel
theorem dX6_back_24 : decode cX6_back 24 = .ok (.iconst 0, 1) := by decide +kernel
theorem dX6_back_25 : decode cX6_back 25 = .ok (.ireturn, 1) := by decide +kernel
theorem dX6_back_26 : decode cX6_back 26 = .ok (.iconst 0, 1) := by decide +kernel
theorem dX6_back_27 : decode cX6_back 27 = .ok (.istore_n 2, 1) := by decide +kernel
theorem dX6_back_28 : decode cX6_back 28 = .ok (.iconst 0, 1) := by decide +kernel
theorem dX6_back_29 : decode cX6_back 29 = .ok (.istore_n 3, 1) := by decide +kernel
theorem dX6_back_30 : decode cX6_back 30 = .ok (.iload_n 3, 1) := by decide +kernel
theorem dX6_back_31 : decode cX6_back 31 = .ok (.ifCond .ne 96, 3) := by decide +kernel
theorem dX6_back_34 : decode cX6_back 34 = .ok (.iinc 2 1, 3) := by decide +kernel
theorem dX6_back_37 : decode cX6_back 37 = .ok (.iconst 1, 1) := by decide +kernel
theorem dX6_back_38 : decode cX6_back 38 = .ok (.istore_n 3, 1) := by decide +kernel
theorem dX6_back_39 : decode cX6_back 39 = .ok (.iconst 0, 1) := by decide +kernel
theorem dX6_back_40 : decode cX6_back 40 = .ok (.istore 4, 2) := by decide +kernel
theorem dX6_back_42 : decode cX6_back 42 = .ok (.iload 4, 2) := by decide +kernel
theorem dX6_back_44 : decode cX6_back 44 = .ok (.aload_n 0, 1) := by decide +kernel
theorem dX6_back_45 : decode cX6_back 45 = .ok (.getfield 7, 3) := by decide +kernel
theorem dX6_back_48 : decode cX6_back 48 = .ok (.iconst 0, 1) := by decide +kernel
theorem dX6_back_49 : decode cX6_back 49 = .ok (.iaload, 1) := by decide +kernel
theorem dX6_back_50 : decode cX6_back 50 = .ok (.if_icmp .ge 74, 3) := by decide +kernel
theorem dX6_back_53 : decode cX6_back 53 = .ok (.aload_n 0, 1) := by decide +kernel
theorem dX6_back_54 : decode cX6_back 54 = .ok (.getfield 7, 3) := by decide +kernel
theorem dX6_back_57 : decode cX6_back 57 = .ok (.iconst 5, 1) := by decide +kernel
theorem dX6_back_58 : decode cX6_back 58 = .ok (.iload 4, 2) := by decide +kernel
theorem dX6_back_60 : decode cX6_back 60 = .ok (.iadd, 1) := by decide +kernel
theorem dX6_back_61 : decode cX6_back 61 = .ok (.iaload, 1) := by decide +kernel
theorem dX6_back_62 : decode cX6_back 62 = .ok (.bipush (-4), 2) := by decide +kernel
theorem dX6_back_64 : decode cX6_back 64 = .ok (.if_icmp .eq 18, 3) := by decide +kernel
theorem dX6_back_67 : decode cX6_back 67 = .ok (.iload_n 1, 1) := by decide +kernel
theorem dX6_back_68 : decode cX6_back 68 = .ok (.iconst (-1), 1) := by decide +kernel
theorem dX6_back_69 : decode cX6_back 69 = .ok (.if_icmp .eq 9, 3) := by decide +kernel
theorem dX6_back_72 : decode cX6_back 72 = .ok (.iload 4, 2) := by decide +kernel
theorem dX6_back_74 : decode cX6_back 74 = .ok (.iload_n 1, 1) := by decide +kernel
theorem dX6_back_75 : decode cX6_back 75 = .ok (.if_icmp .ne 7, 3) := by decide +kernel
theorem dX6_back_78 : decode cX6_back 78 = .ok (.iconst 1, 1) := by decide +kernel
theorem dX6_back_79 : decode cX6_back 79 = .ok (.goto 4, 3) := by decide +kernel
theorem dX6_back_82 : decode cX6_back 82 = .ok (.iconst 0, 1) := by decide +kernel
theorem dX6_back_83 : decode cX6_back 83 = .ok (.istore 5, 2) := by decide +kernel
theorem dX6_back_85 : decode cX6_back 85 = .ok (.iload_n 3, 1) := by decide +kernel
theorem dX6_back_86 : decode cX6_back 86 = .ok (.ifCond .eq 30, 3) := by decide +kernel
theorem dX6_back_89 : decode cX6_back 89 = .ok (.iload 5, 2) := by decide +kernel
theorem dX6_back_91 : decode cX6_back 91 = .ok (.ifCond .eq 21, 3) := by decide +kernel
theorem dX6_back_94 : decode cX6_back 94 = .ok (.iload_n 2, 1) := by decide +kernel
theorem dX6_back_95 : decode cX6_back 95 = .ok (.aload_n 0, 1) := by decide +kernel
theorem dX6_back_96 : decode cX6_back 96 = .ok (.aload_n 0, 1) := by decide +kernel
theorem dX6_back_97 : decode cX6_back 97 = .ok (.getfield 7, 3) := by decide +kernel
theorem dX6_back_100 : decode cX6_back 100 = .ok (.iconst 5, 1) := by decide +kernel
theorem dX6_back_101 : decode cX6_back 101 = .ok (.iload 4, 2) := by decide +kernel
theorem dX6_back_103 : decode cX6_back 103 = .ok (.iadd, 1) := by decide +kernel
theorem dX6_back_104 : decode cX6_back 104 = .ok (.iaload, 1) := by decide +kernel
theorem dX6_back_105 : decode cX6_back 105 = .ok (.invokevirtual 171, 3) := by decide +kernel
theorem dX6_back_108 : decode cX6_back 108 = .ok (.irem, 1) := by decide +kernel
theorem dX6_back_109 : decode cX6_back 109 = .ok (.ifCond .ne 7, 3) := by decide +kernel
theorem dX6_back_112 : decode cX6_back 112 = .ok (.iconst 1, 1) := by decide +kernel
theorem dX6_back_113 : decode cX6_back 113 = .ok (.goto 4, 3) := by decide +kernel
theorem dX6_back_116 : decode cX6_back 116 = .ok (.iconst 0, 1) := by decide +kernel
theorem dX6_back_117 : decode cX6_back 117 = .ok (.istore_n 3, 1) := by decide +kernel
theorem dX6_back_118 : decode cX6_back 118 = .ok (.iinc 4 1, 3) := by decide +kernel
theorem dX6_back_121 : decode cX6_back 121 = .ok (.goto (-79), 3) := by decide +kernel
theorem dX6_back_124 : decode cX6_back 124 = .ok (.goto (-94), 3) := by decide +kernel
theorem dX6_back_127 : decode cX6_back 127 = .ok (.iload_n 2, 1) := by decide +kernel
theorem dX6_back_128 : decode cX6_back 128 = .ok (.aload_n 0, 1) := by decide +kernel
theorem dX6_back_129 : decode cX6_back 129 = .ok (.getfield 7, 3) := by decide +kernel
theorem dX6_back_132 : decode cX6_back 132 = .ok (.iconst 2, 1) := by decide +kernel
theorem dX6_back_133 : decode cX6_back 133 = .ok (.iaload, 1) := by decide +kernel
theorem dX6_back_134 : decode cX6_back 134 = .ok (.imul, 1) := by decide +kernel
theorem dX6_back_135 : decode cX6_back 135 = .ok (.ireturn, 1) := by decide +kernel
theorem dX6_been_0 : decode cX6_been 0 = .ok (.aload_n 0, 1) := by decide +kernel
theorem dX6_been_1 : decode cX6_been 1 = .ok (.iload_n 1, 1) := by decide +kernel
theorem dX6_been_2 : decode cX6_been 2 = .ok (.invokevirtual 100, 3) := by decide +kernel
theorem dX6_been_5 : decode cX6_been 5 = .ok (.ifCond .ne 5, 3) := by decide +kernel
theorem dX6_been_8 : decode cX6_been 8 = .ok (.iconst (-1), 1) := by decide +kernel
theorem dX6_been_9 : decode cX6_been 9 = .ok (.ireturn, 1) := by decide +kernel
theorem dX6_been_10 : decode cX6_been 10 = .ok (.aload_n 0, 1) := by decide +kernel
theorem dX6_been_11 : decode cX6_been 11 = .ok (.getfield 7, 3) := by decide +kernel
theorem dX6_been_14 : decode cX6_been 14 = .ok (.iconst 5, 1) := by decide +kernel
theorem dX6_been_15 : decode cX6_been 15 = .ok (.iload_n 1, 1) := by decide +kernel
theorem dX6_been_16 : decode cX6_been 16 = .ok (.iadd, 1) := by decide +kernel
theorem dX6_been_17 : decode cX6_been 17 = .ok (.iaload, 1) := by decide +kernel
theorem dX6_been_18 : decode cX6_been 18 = .ok (.istore_n 2, 1) := by decide +kernel
theorem dX6_been_19 : decode cX6_been 19 = .ok (.iload_n 2, 1) := by decide +kernel
theorem dX6_been_20 : decode cX6_been 20 = .ok (.bipush (-4), 2) := by decide +kernel
theorem dX6_been_22 : decode cX6_been 22 = .ok (.if_icmp .ne 5, 3) := by decide +kernel
theorem dX6_been_25 : decode cX6_been 25 = .ok (.iconst 0, 1) := by decide +kernel
theorem dX6_been_26 : decode cX6_been 26 = .ok (.ireturn, 1) := by decide +kernel
theorem dX6_been_27 : decode cX6_been 27 = .ok (.iconst 1, 1) := by decide +kernel
theorem dX6_been_28 : decode cX6_been 28 = .ok (.iload_n 2, 1) := by decide +kernel
theorem dX6_been_29 : decode cX6_been 29 = .ok (.ishl, 1) := by decide +kernel
theorem dX6_been_30 : decode cX6_been 30 = .ok (.istore_n 3, 1) := by decide +kernel
theorem dX6_been_31 : decode cX6_been 31 = .ok (.aload_n 0, 1) := by decide +kernel
theorem dX6_been_32 : decode cX6_been 32 = .ok (.getfield 7, 3) := by decide +kernel
theorem dX6_been_35 : decode cX6_been 35 = .ok (.iconst 2, 1) := by decide +kernel
theorem dX6_been_36 : decode cX6_been 36 = .ok (.iaload, 1) := by decide +kernel
theorem dX6_been_37 : decode cX6_been 37 = .ok (.ifCond .ne 7, 3) := by decide +kernel
theorem dX6_been_40 : decode cX6_been 40 = .ok (.iconst 0, 1) := by decide +kernel
theorem dX6_been_41 : decode cX6_been 41 = .ok (.goto 15, 3) := by decide +kernel
theorem dX6_been_44 : decode cX6_been 44 = .ok (.aload_n 0, 1) := by decide +kernel
theorem dX6_been_45 : decode cX6_been 45 = .ok (.iload_n 2, 1) := by decide +kernel
theorem dX6_been_46 : decode cX6_been 46 = .ok (.invokevirtual 171, 3) := by decide +kernel
theorem dX6_been_49 : decode cX6_been 49 = .ok (.aload_n 0, 1) := by decide +kernel
theorem dX6_been_50 : decode cX6_been 50 = .ok (.getfield 7, 3) := by decide +kernel
theorem dX6_been_53 : decode cX6_been 53 = .ok (.iconst 2, 1) := by decide +kernel
theorem dX6_been_54 : decode cX6_been 54 = .ok (.iaload, 1) := by decide +kernel
theorem dX6_been_55 : decode cX6_been 55 = .ok (.imul, 1) := by decide +kernel
theorem dX6_been_56 : decode cX6_been 56 = .ok (.istore 4, 2) := by decide +kernel
theorem dX6_been_58 : decode cX6_been 58 = .ok (.iconst 0, 1) := by decide +kernel
theorem dX6_been_59 : decode cX6_been 59 = .ok (.istore 5, 2) := by decide +kernel
theorem dX6_been_61 : decode cX6_been 61 = .ok (.iload 5, 2) := by decide +kernel
theorem dX6_been_63 : decode cX6_been 63 = .ok (.iload 4, 2) := by decide +kernel
theorem dX6_been_65 : decode cX6_been 65 = .ok (.if_icmp .ge 45, 3) := by decide +kernel
theorem dX6_been_68 : decode cX6_been 68 = .ok (.aload_n 0, 1) := by decide +kernel
theorem dX6_been_69 : decode cX6_been 69 = .ok (.aload_n 0, 1) := by decide +kernel
theorem dX6_been_70 : decode cX6_been 70 = .ok (.getfield 7, 3) := by decide +kernel
theorem dX6_been_73 : decode cX6_been 73 = .ok (.bipush 23, 2) := by decide +kernel
theorem dX6_been_75 : decode cX6_been 75 = .ok (.aload_n 0, 1) := by decide +kernel
theorem dX6_been_76 : decode cX6_been 76 = .ok (.getfield 7, 3) := by decide +kernel
theorem dX6_been_79 : decode cX6_been 79 = .ok (.iconst 3, 1) := by decide +kernel
theorem dX6_been_80 : decode cX6_been 80 = .ok (.iaload, 1) := by decide +kernel
theorem dX6_been_81 : decode cX6_been 81 = .ok (.iload 5, 2) := by decide +kernel
theorem dX6_been_83 : decode cX6_been 83 = .ok (.iadd, 1) := by decide +kernel
theorem dX6_been_84 : decode cX6_been 84 = .ok (.aload_n 0, 1) := by decide +kernel
theorem dX6_been_85 : decode cX6_been 85 = .ok (.getfield 7, 3) := by decide +kernel
theorem dX6_been_88 : decode cX6_been 88 = .ok (.iconst 2, 1) := by decide +kernel
theorem dX6_been_89 : decode cX6_been 89 = .ok (.iaload, 1) := by decide +kernel
theorem dX6_been_90 : decode cX6_been 90 = .ok (.irem, 1) := by decide +kernel
theorem dX6_been_91 : decode cX6_been 91 = .ok (.iadd, 1) := by decide +kernel
theorem dX6_been_92 : decode cX6_been 92 = .ok (.iaload, 1) := by decide +kernel
theorem dX6_been_93 : decode cX6_been 93 = .ok (.iload_n 2, 1) := by decide +kernel
theorem dX6_been_94 : decode cX6_been 94 = .ok (.invokevirtual 67, 3) := by decide +kernel
theorem dX6_been_97 : decode cX6_been 97 = .ok (.istore_n 2, 1) := by decide +kernel
theorem dX6_been_98 : decode cX6_been 98 = .ok (.iload_n 3, 1) := by decide +kernel
theorem dX6_been_99 : decode cX6_been 99 = .ok (.iconst 1, 1) := by decide +kernel
theorem dX6_been_100 : decode cX6_been 100 = .ok (.iload_n 2, 1) := by decide +kernel
theorem dX6_been_101 : decode cX6_been 101 = .ok (.ishl, 1) := by decide +kernel
theorem dX6_been_102 : decode cX6_been 102 = .ok (.ior, 1) := by decide +kernel
theorem dX6_been_103 : decode cX6_been 103 = .ok (.istore_n 3, 1) := by decide +kernel
theorem dX6_been_104 : decode cX6_been 104 = .ok (.iinc 5 1, 3) := by decide +kernel
theorem dX6_been_107 : decode cX6_been 107 = .ok (.goto (-46), 3) := by decide +kernel
theorem dX6_been_110 : decode cX6_been 110 = .ok (.iload_n 3, 1) := by decide +kernel
theorem dX6_been_111 : decode cX6_been 111 = .ok (.ireturn, 1) := by decide +kernel
theorem dX6_ledBy_0 : decode cX6_ledBy 0 = .ok (.iconst 0, 1) := by decide +kernel
theorem dX6_ledBy_1 : decode cX6_ledBy 1 = .ok (.istore_n 3, 1) := by decide +kernel
theorem dX6_ledBy_2 : decode cX6_ledBy 2 = .ok (.iconst 0, 1) := by decide +kernel
theorem dX6_ledBy_3 : decode cX6_ledBy 3 = .ok (.istore 4, 2) := by decide +kernel
theorem dX6_ledBy_5 : decode cX6_ledBy 5 = .ok (.iload 4, 2) := by decide +kernel
theorem dX6_ledBy_7 : decode cX6_ledBy 7 = .ok (.bipush 8, 2) := by decide +kernel
theorem dX6_ledBy_9 : decode cX6_ledBy 9 = .ok (.if_icmp .ge 34, 3) := by decide +kernel
theorem dX6_ledBy_12 : decode cX6_ledBy 12 = .ok (.iload_n 3, 1) := by decide +kernel
theorem dX6_ledBy_13 : decode cX6_ledBy 13 = .ok (.iload_n 2, 1) := by decide +kernel
theorem dX6_ledBy_14 : decode cX6_ledBy 14 = .ok (.iload 4, 2) := by decide +kernel
theorem dX6_ledBy_16 : decode cX6_ledBy 16 = .ok (.invokestatic 82, 3) := by decide +kernel
theorem dX6_ledBy_19 : decode cX6_ledBy 19 = .ok (.ifCond .eq 15, 3) := by decide +kernel
theorem dX6_ledBy_22 : decode cX6_ledBy 22 = .ok (.iconst 1, 1) := by decide +kernel
theorem dX6_ledBy_23 : decode cX6_ledBy 23 = .ok (.aload_n 0, 1) := by decide +kernel
theorem dX6_ledBy_24 : decode cX6_ledBy 24 = .ok (.iload_n 1, 1) := by decide +kernel
theorem dX6_ledBy_25 : decode cX6_ledBy 25 = .ok (.iload 4, 2) := by decide +kernel
theorem dX6_ledBy_27 : decode cX6_ledBy 27 = .ok (.invokevirtual 67, 3) := by decide +kernel
theorem dX6_ledBy_30 : decode cX6_ledBy 30 = .ok (.ishl, 1) := by decide +kernel
theorem dX6_ledBy_31 : decode cX6_ledBy 31 = .ok (.goto 4, 3) := by decide +kernel
theorem dX6_ledBy_34 : decode cX6_ledBy 34 = .ok (.iconst 0, 1) := by decide +kernel
theorem dX6_ledBy_35 : decode cX6_ledBy 35 = .ok (.ior, 1) := by decide +kernel
theorem dX6_ledBy_36 : decode cX6_ledBy 36 = .ok (.istore_n 3, 1) := by decide +kernel
theorem dX6_ledBy_37 : decode cX6_ledBy 37 = .ok (.iinc 4 1, 3) := by decide +kernel
theorem dX6_ledBy_40 : decode cX6_ledBy 40 = .ok (.goto (-35), 3) := by decide +kernel
theorem dX6_ledBy_43 : decode cX6_ledBy 43 = .ok (.iload_n 3, 1) := by decide +kernel
theorem dX6_ledBy_44 : decode cX6_ledBy 44 = .ok (.ireturn, 1) := by decide +kernel
theorem dX6_laysFar_0 : decode cX6_laysFar 0 = .ok (.iconst 0, 1) := by decide +kernel
theorem dX6_laysFar_1 : decode cX6_laysFar 1 = .ok (.istore_n 2, 1) := by decide +kernel
theorem dX6_laysFar_2 : decode cX6_laysFar 2 = .ok (.iload_n 2, 1) := by decide +kernel
theorem dX6_laysFar_3 : decode cX6_laysFar 3 = .ok (.sipush 256, 3) := by decide +kernel
theorem dX6_laysFar_6 : decode cX6_laysFar 6 = .ok (.if_icmp .ge 17, 3) := by decide +kernel
theorem dX6_laysFar_9 : decode cX6_laysFar 9 = .ok (.aload_n 0, 1) := by decide +kernel
theorem dX6_laysFar_10 : decode cX6_laysFar 10 = .ok (.getfield 29, 3) := by decide +kernel
theorem dX6_laysFar_13 : decode cX6_laysFar 13 = .ok (.iload_n 2, 1) := by decide +kernel
theorem dX6_laysFar_14 : decode cX6_laysFar 14 = .ok (.ldc 182, 2) := by decide +kernel
theorem dX6_laysFar_16 : decode cX6_laysFar 16 = .ok (.iastore, 1) := by decide +kernel
theorem dX6_laysFar_17 : decode cX6_laysFar 17 = .ok (.iinc 2 1, 3) := by decide +kernel
theorem dX6_laysFar_20 : decode cX6_laysFar 20 = .ok (.goto (-18), 3) := by decide +kernel
theorem dX6_laysFar_23 : decode cX6_laysFar 23 = .ok (.iconst 1, 1) := by decide +kernel
theorem dX6_laysFar_24 : decode cX6_laysFar 24 = .ok (.istore_n 2, 1) := by decide +kernel
theorem dX6_laysFar_25 : decode cX6_laysFar 25 = .ok (.aload_n 0, 1) := by decide +kernel
theorem dX6_laysFar_26 : decode cX6_laysFar 26 = .ok (.getfield 32, 3) := by decide +kernel
theorem dX6_laysFar_29 : decode cX6_laysFar 29 = .ok (.iconst 0, 1) := by decide +kernel
theorem dX6_laysFar_30 : decode cX6_laysFar 30 = .ok (.iload_n 1, 1) := by decide +kernel
theorem dX6_laysFar_31 : decode cX6_laysFar 31 = .ok (.iastore, 1) := by decide +kernel
theorem dX6_laysFar_32 : decode cX6_laysFar 32 = .ok (.aload_n 0, 1) := by decide +kernel
theorem dX6_laysFar_33 : decode cX6_laysFar 33 = .ok (.getfield 29, 3) := by decide +kernel
theorem dX6_laysFar_36 : decode cX6_laysFar 36 = .ok (.iload_n 1, 1) := by decide +kernel
theorem dX6_laysFar_37 : decode cX6_laysFar 37 = .ok (.iconst 0, 1) := by decide +kernel
theorem dX6_laysFar_38 : decode cX6_laysFar 38 = .ok (.iastore, 1) := by decide +kernel
theorem dX6_laysFar_39 : decode cX6_laysFar 39 = .ok (.iconst 0, 1) := by decide +kernel
theorem dX6_laysFar_40 : decode cX6_laysFar 40 = .ok (.istore_n 3, 1) := by decide +kernel
theorem dX6_laysFar_41 : decode cX6_laysFar 41 = .ok (.iload_n 3, 1) := by decide +kernel
theorem dX6_laysFar_42 : decode cX6_laysFar 42 = .ok (.iload_n 2, 1) := by decide +kernel
theorem dX6_laysFar_43 : decode cX6_laysFar 43 = .ok (.if_icmp .ge 86, 3) := by decide +kernel
theorem dX6_laysFar_46 : decode cX6_laysFar 46 = .ok (.iconst 0, 1) := by decide +kernel
theorem dX6_laysFar_47 : decode cX6_laysFar 47 = .ok (.istore 4, 2) := by decide +kernel
theorem dX6_laysFar_49 : decode cX6_laysFar 49 = .ok (.iload 4, 2) := by decide +kernel
theorem dX6_laysFar_51 : decode cX6_laysFar 51 = .ok (.aload_n 0, 1) := by decide +kernel
theorem dX6_laysFar_52 : decode cX6_laysFar 52 = .ok (.getfield 7, 3) := by decide +kernel
theorem dX6_laysFar_55 : decode cX6_laysFar 55 = .ok (.iconst 1, 1) := by decide +kernel
theorem dX6_laysFar_56 : decode cX6_laysFar 56 = .ok (.iaload, 1) := by decide +kernel
theorem dX6_laysFar_57 : decode cX6_laysFar 57 = .ok (.if_icmp .ge 66, 3) := by decide +kernel
theorem dX6_laysFar_60 : decode cX6_laysFar 60 = .ok (.aload_n 0, 1) := by decide +kernel
theorem dX6_laysFar_61 : decode cX6_laysFar 61 = .ok (.iload 4, 2) := by decide +kernel
theorem dX6_laysFar_63 : decode cX6_laysFar 63 = .ok (.aload_n 0, 1) := by decide +kernel
theorem dX6_laysFar_64 : decode cX6_laysFar 64 = .ok (.getfield 32, 3) := by decide +kernel
theorem dX6_laysFar_67 : decode cX6_laysFar 67 = .ok (.iload_n 3, 1) := by decide +kernel
theorem dX6_laysFar_68 : decode cX6_laysFar 68 = .ok (.iaload, 1) := by decide +kernel
theorem dX6_laysFar_69 : decode cX6_laysFar 69 = .ok (.invokevirtual 183, 3) := by decide +kernel
theorem dX6_laysFar_72 : decode cX6_laysFar 72 = .ok (.istore 5, 2) := by decide +kernel
theorem dX6_laysFar_74 : decode cX6_laysFar 74 = .ok (.aload_n 0, 1) := by decide +kernel
theorem dX6_laysFar_75 : decode cX6_laysFar 75 = .ok (.getfield 29, 3) := by decide +kernel
theorem dX6_laysFar_78 : decode cX6_laysFar 78 = .ok (.iload 5, 2) := by decide +kernel
theorem dX6_laysFar_80 : decode cX6_laysFar 80 = .ok (.iaload, 1) := by decide +kernel
theorem dX6_laysFar_81 : decode cX6_laysFar 81 = .ok (.ldc 182, 2) := by decide +kernel
theorem dX6_laysFar_83 : decode cX6_laysFar 83 = .ok (.if_icmp .ne 34, 3) := by decide +kernel
theorem dX6_laysFar_86 : decode cX6_laysFar 86 = .ok (.aload_n 0, 1) := by decide +kernel
theorem dX6_laysFar_87 : decode cX6_laysFar 87 = .ok (.getfield 29, 3) := by decide +kernel
theorem dX6_laysFar_90 : decode cX6_laysFar 90 = .ok (.iload 5, 2) := by decide +kernel
theorem dX6_laysFar_92 : decode cX6_laysFar 92 = .ok (.aload_n 0, 1) := by decide +kernel
theorem dX6_laysFar_93 : decode cX6_laysFar 93 = .ok (.getfield 29, 3) := by decide +kernel
theorem dX6_laysFar_96 : decode cX6_laysFar 96 = .ok (.aload_n 0, 1) := by decide +kernel
theorem dX6_laysFar_97 : decode cX6_laysFar 97 = .ok (.getfield 32, 3) := by decide +kernel
theorem dX6_laysFar_100 : decode cX6_laysFar 100 = .ok (.iload_n 3, 1) := by decide +kernel
theorem dX6_laysFar_101 : decode cX6_laysFar 101 = .ok (.iaload, 1) := by decide +kernel
theorem dX6_laysFar_102 : decode cX6_laysFar 102 = .ok (.iaload, 1) := by decide +kernel
theorem dX6_laysFar_103 : decode cX6_laysFar 103 = .ok (.iconst 1, 1) := by decide +kernel
theorem dX6_laysFar_104 : decode cX6_laysFar 104 = .ok (.iadd, 1) := by decide +kernel
theorem dX6_laysFar_105 : decode cX6_laysFar 105 = .ok (.iastore, 1) := by decide +kernel
theorem dX6_laysFar_106 : decode cX6_laysFar 106 = .ok (.aload_n 0, 1) := by decide +kernel
theorem dX6_laysFar_107 : decode cX6_laysFar 107 = .ok (.getfield 32, 3) := by decide +kernel
theorem dX6_laysFar_110 : decode cX6_laysFar 110 = .ok (.iload_n 2, 1) := by decide +kernel
theorem dX6_laysFar_111 : decode cX6_laysFar 111 = .ok (.iload 5, 2) := by decide +kernel
theorem dX6_laysFar_113 : decode cX6_laysFar 113 = .ok (.iastore, 1) := by decide +kernel
theorem dX6_laysFar_114 : decode cX6_laysFar 114 = .ok (.iinc 2 1, 3) := by decide +kernel
theorem dX6_laysFar_117 : decode cX6_laysFar 117 = .ok (.iinc 4 1, 3) := by decide +kernel
theorem dX6_laysFar_120 : decode cX6_laysFar 120 = .ok (.goto (-71), 3) := by decide +kernel
theorem dX6_laysFar_123 : decode cX6_laysFar 123 = .ok (.iinc 3 1, 3) := by decide +kernel
theorem dX6_laysFar_126 : decode cX6_laysFar 126 = .ok (.goto (-85), 3) := by decide +kernel
theorem dX6_laysFar_129 : decode cX6_laysFar 129 = .ok (.iload_n 2, 1) := by decide +kernel
theorem dX6_laysFar_130 : decode cX6_laysFar 130 = .ok (.ireturn, 1) := by decide +kernel
theorem dX6_laysLeft_0 : decode cX6_laysLeft 0 = .ok (.iconst 0, 1) := by decide +kernel
theorem dX6_laysLeft_1 : decode cX6_laysLeft 1 = .ok (.istore_n 2, 1) := by decide +kernel
theorem dX6_laysLeft_2 : decode cX6_laysLeft 2 = .ok (.iload_n 2, 1) := by decide +kernel
theorem dX6_laysLeft_3 : decode cX6_laysLeft 3 = .ok (.sipush 256, 3) := by decide +kernel
theorem dX6_laysLeft_6 : decode cX6_laysLeft 6 = .ok (.if_icmp .ge 26, 3) := by decide +kernel
theorem dX6_laysLeft_9 : decode cX6_laysLeft 9 = .ok (.aload_n 0, 1) := by decide +kernel
theorem dX6_laysLeft_10 : decode cX6_laysLeft 10 = .ok (.getfield 35, 3) := by decide +kernel
theorem dX6_laysLeft_13 : decode cX6_laysLeft 13 = .ok (.iload_n 2, 1) := by decide +kernel
theorem dX6_laysLeft_14 : decode cX6_laysLeft 14 = .ok (.iload_n 2, 1) := by decide +kernel
theorem dX6_laysLeft_15 : decode cX6_laysLeft 15 = .ok (.iload_n 1, 1) := by decide +kernel
theorem dX6_laysLeft_16 : decode cX6_laysLeft 16 = .ok (.if_icmp .ne 7, 3) := by decide +kernel
theorem dX6_laysLeft_19 : decode cX6_laysLeft 19 = .ok (.iconst 0, 1) := by decide +kernel
theorem dX6_laysLeft_20 : decode cX6_laysLeft 20 = .ok (.goto 5, 3) := by decide +kernel
theorem dX6_laysLeft_23 : decode cX6_laysLeft 23 = .ok (.ldc 182, 2) := by decide +kernel
theorem dX6_laysLeft_25 : decode cX6_laysLeft 25 = .ok (.iastore, 1) := by decide +kernel
theorem dX6_laysLeft_26 : decode cX6_laysLeft 26 = .ok (.iinc 2 1, 3) := by decide +kernel
theorem dX6_laysLeft_29 : decode cX6_laysLeft 29 = .ok (.goto (-27), 3) := by decide +kernel
theorem dX6_laysLeft_32 : decode cX6_laysLeft 32 = .ok (.iconst 1, 1) := by decide +kernel
theorem dX6_laysLeft_33 : decode cX6_laysLeft 33 = .ok (.istore_n 2, 1) := by decide +kernel
theorem dX6_laysLeft_34 : decode cX6_laysLeft 34 = .ok (.iload_n 2, 1) := by decide +kernel
theorem dX6_laysLeft_35 : decode cX6_laysLeft 35 = .ok (.ifCond .eq 80, 3) := by decide +kernel
theorem dX6_laysLeft_38 : decode cX6_laysLeft 38 = .ok (.iconst 0, 1) := by decide +kernel
theorem dX6_laysLeft_39 : decode cX6_laysLeft 39 = .ok (.istore_n 2, 1) := by decide +kernel
theorem dX6_laysLeft_40 : decode cX6_laysLeft 40 = .ok (.iconst 0, 1) := by decide +kernel
theorem dX6_laysLeft_41 : decode cX6_laysLeft 41 = .ok (.istore_n 3, 1) := by decide +kernel
theorem dX6_laysLeft_42 : decode cX6_laysLeft 42 = .ok (.iload_n 3, 1) := by decide +kernel
theorem dX6_laysLeft_43 : decode cX6_laysLeft 43 = .ok (.sipush 256, 3) := by decide +kernel
theorem dX6_laysLeft_46 : decode cX6_laysLeft 46 = .ok (.if_icmp .ge 66, 3) := by decide +kernel
theorem dX6_laysLeft_49 : decode cX6_laysLeft 49 = .ok (.iconst 0, 1) := by decide +kernel
theorem dX6_laysLeft_50 : decode cX6_laysLeft 50 = .ok (.istore 4, 2) := by decide +kernel
theorem dX6_laysLeft_52 : decode cX6_laysLeft 52 = .ok (.iload 4, 2) := by decide +kernel
theorem dX6_laysLeft_54 : decode cX6_laysLeft 54 = .ok (.aload_n 0, 1) := by decide +kernel
theorem dX6_laysLeft_55 : decode cX6_laysLeft 55 = .ok (.getfield 7, 3) := by decide +kernel
theorem dX6_laysLeft_58 : decode cX6_laysLeft 58 = .ok (.iconst 1, 1) := by decide +kernel
theorem dX6_laysLeft_59 : decode cX6_laysLeft 59 = .ok (.iaload, 1) := by decide +kernel
theorem dX6_laysLeft_60 : decode cX6_laysLeft 60 = .ok (.if_icmp .ge 46, 3) := by decide +kernel
theorem dX6_laysLeft_63 : decode cX6_laysLeft 63 = .ok (.aload_n 0, 1) := by decide +kernel
theorem dX6_laysLeft_64 : decode cX6_laysLeft 64 = .ok (.getfield 35, 3) := by decide +kernel
theorem dX6_laysLeft_67 : decode cX6_laysLeft 67 = .ok (.aload_n 0, 1) := by decide +kernel
theorem dX6_laysLeft_68 : decode cX6_laysLeft 68 = .ok (.iload 4, 2) := by decide +kernel
theorem dX6_laysLeft_70 : decode cX6_laysLeft 70 = .ok (.iload_n 3, 1) := by decide +kernel
theorem dX6_laysLeft_71 : decode cX6_laysLeft 71 = .ok (.invokevirtual 183, 3) := by decide +kernel
theorem dX6_laysLeft_74 : decode cX6_laysLeft 74 = .ok (.iaload, 1) := by decide +kernel
theorem dX6_laysLeft_75 : decode cX6_laysLeft 75 = .ok (.iconst 1, 1) := by decide +kernel
theorem dX6_laysLeft_76 : decode cX6_laysLeft 76 = .ok (.iadd, 1) := by decide +kernel
theorem dX6_laysLeft_77 : decode cX6_laysLeft 77 = .ok (.istore 5, 2) := by decide +kernel
theorem dX6_laysLeft_79 : decode cX6_laysLeft 79 = .ok (.iload 5, 2) := by decide +kernel
theorem dX6_laysLeft_81 : decode cX6_laysLeft 81 = .ok (.aload_n 0, 1) := by decide +kernel
theorem dX6_laysLeft_82 : decode cX6_laysLeft 82 = .ok (.getfield 35, 3) := by decide +kernel
theorem dX6_laysLeft_85 : decode cX6_laysLeft 85 = .ok (.iload_n 3, 1) := by decide +kernel
theorem dX6_laysLeft_86 : decode cX6_laysLeft 86 = .ok (.iaload, 1) := by decide +kernel
theorem dX6_laysLeft_87 : decode cX6_laysLeft 87 = .ok (.if_icmp .ge 13, 3) := by decide +kernel
theorem dX6_laysLeft_90 : decode cX6_laysLeft 90 = .ok (.aload_n 0, 1) := by decide +kernel
theorem dX6_laysLeft_91 : decode cX6_laysLeft 91 = .ok (.getfield 35, 3) := by decide +kernel
theorem dX6_laysLeft_94 : decode cX6_laysLeft 94 = .ok (.iload_n 3, 1) := by decide +kernel
theorem dX6_laysLeft_95 : decode cX6_laysLeft 95 = .ok (.iload 5, 2) := by decide +kernel
theorem dX6_laysLeft_97 : decode cX6_laysLeft 97 = .ok (.iastore, 1) := by decide +kernel
theorem dX6_laysLeft_98 : decode cX6_laysLeft 98 = .ok (.iconst 1, 1) := by decide +kernel
theorem dX6_laysLeft_99 : decode cX6_laysLeft 99 = .ok (.istore_n 2, 1) := by decide +kernel
theorem dX6_laysLeft_100 : decode cX6_laysLeft 100 = .ok (.iinc 4 1, 3) := by decide +kernel
theorem dX6_laysLeft_103 : decode cX6_laysLeft 103 = .ok (.goto (-51), 3) := by decide +kernel
theorem dX6_laysLeft_106 : decode cX6_laysLeft 106 = .ok (.iinc 3 1, 3) := by decide +kernel
theorem dX6_laysLeft_109 : decode cX6_laysLeft 109 = .ok (.goto (-67), 3) := by decide +kernel
theorem dX6_laysLeft_112 : decode cX6_laysLeft 112 = .ok (.goto (-78), 3) := by decide +kernel
theorem dX6_laysLeft_115 : decode cX6_laysLeft 115 = .ok (.return_, 1) := by decide +kernel
theorem dX6_shortest_0 : decode cX6_shortest 0 = .ok (.iload_n 1, 1) := by decide +kernel
theorem dX6_shortest_1 : decode cX6_shortest 1 = .ok (.i2l, 1) := by decide +kernel
theorem dX6_shortest_2 : decode cX6_shortest 2 = .ok (.lconst 0, 1) := by decide +kernel
theorem dX6_shortest_3 : decode cX6_shortest 3 = .ok (.ldc2_w 186, 3) := by decide +kernel
theorem dX6_shortest_6 : decode cX6_shortest 6 = .ok (.invokestatic 52, 3) := by decide +kernel
theorem dX6_shortest_9 : decode cX6_shortest 9 = .ok (.ifCond .eq 8, 3) := by decide +kernel
theorem dX6_shortest_12 : decode cX6_shortest 12 = .ok (.iload_n 2, 1) := by decide +kernel
theorem dX6_shortest_13 : decode cX6_shortest 13 = .ok (.iconst (-1), 1) := by decide +kernel
theorem dX6_shortest_14 : decode cX6_shortest 14 = .ok (.if_icmp .ge 5, 3) := by decide +kernel
theorem dX6_shortest_17 : decode cX6_shortest 17 = .ok (.iconst (-1), 1) := by decide +kernel
theorem dX6_shortest_18 : decode cX6_shortest 18 = .ok (.ireturn, 1) := by decide +kernel
theorem dX6_shortest_19 : decode cX6_shortest 19 = .ok (.aload_n 0, 1) := by decide +kernel
theorem dX6_shortest_20 : decode cX6_shortest 20 = .ok (.iload_n 1, 1) := by decide +kernel
theorem dX6_shortest_21 : decode cX6_shortest 21 = .ok (.invokevirtual 188, 3) := by decide +kernel
theorem dX6_shortest_24 : decode cX6_shortest 24 = .ok (.aload_n 0, 1) := by decide +kernel
theorem dX6_shortest_25 : decode cX6_shortest 25 = .ok (.invokevirtual 78, 3) := by decide +kernel
theorem dX6_shortest_28 : decode cX6_shortest 28 = .ok (.istore_n 3, 1) := by decide +kernel
theorem dX6_shortest_29 : decode cX6_shortest 29 = .ok (.aload_n 0, 1) := by decide +kernel
theorem dX6_shortest_30 : decode cX6_shortest 30 = .ok (.getfield 35, 3) := by decide +kernel
theorem dX6_shortest_33 : decode cX6_shortest 33 = .ok (.iload_n 3, 1) := by decide +kernel
theorem dX6_shortest_34 : decode cX6_shortest 34 = .ok (.iaload, 1) := by decide +kernel
theorem dX6_shortest_35 : decode cX6_shortest 35 = .ok (.ldc 182, 2) := by decide +kernel
theorem dX6_shortest_37 : decode cX6_shortest 37 = .ok (.if_icmp .lt 6, 3) := by decide +kernel
theorem dX6_shortest_40 : decode cX6_shortest 40 = .ok (.bipush (-4), 2) := by decide +kernel
theorem dX6_shortest_42 : decode cX6_shortest 42 = .ok (.ireturn, 1) := by decide +kernel
theorem dX6_shortest_43 : decode cX6_shortest 43 = .ok (.aload_n 0, 1) := by decide +kernel
theorem dX6_shortest_44 : decode cX6_shortest 44 = .ok (.getfield 35, 3) := by decide +kernel
theorem dX6_shortest_47 : decode cX6_shortest 47 = .ok (.iload_n 3, 1) := by decide +kernel
theorem dX6_shortest_48 : decode cX6_shortest 48 = .ok (.iaload, 1) := by decide +kernel
theorem dX6_shortest_49 : decode cX6_shortest 49 = .ok (.istore 4, 2) := by decide +kernel
theorem dX6_shortest_51 : decode cX6_shortest 51 = .ok (.iload_n 2, 1) := by decide +kernel
theorem dX6_shortest_52 : decode cX6_shortest 52 = .ok (.ifCond .ge 6, 3) := by decide +kernel
theorem dX6_shortest_55 : decode cX6_shortest 55 = .ok (.iload 4, 2) := by decide +kernel
theorem dX6_shortest_57 : decode cX6_shortest 57 = .ok (.ireturn, 1) := by decide +kernel
theorem dX6_shortest_58 : decode cX6_shortest 58 = .ok (.iload_n 2, 1) := by decide +kernel
theorem dX6_shortest_59 : decode cX6_shortest 59 = .ok (.iload 4, 2) := by decide +kernel
theorem dX6_shortest_61 : decode cX6_shortest 61 = .ok (.if_icmp .lt 6, 3) := by decide +kernel
theorem dX6_shortest_64 : decode cX6_shortest 64 = .ok (.bipush (-4), 2) := by decide +kernel
theorem dX6_shortest_66 : decode cX6_shortest 66 = .ok (.ireturn, 1) := by decide +kernel
theorem dX6_shortest_67 : decode cX6_shortest 67 = .ok (.iconst 0, 1) := by decide +kernel
theorem dX6_shortest_68 : decode cX6_shortest 68 = .ok (.istore 5, 2) := by decide +kernel
theorem dX6_shortest_70 : decode cX6_shortest 70 = .ok (.iconst 0, 1) := by decide +kernel
theorem dX6_shortest_71 : decode cX6_shortest 71 = .ok (.istore 6, 2) := by decide +kernel
theorem dX6_shortest_73 : decode cX6_shortest 73 = .ok (.iload 6, 2) := by decide +kernel
theorem dX6_shortest_75 : decode cX6_shortest 75 = .ok (.iload_n 2, 1) := by decide +kernel
theorem dX6_shortest_76 : decode cX6_shortest 76 = .ok (.if_icmp .gt 48, 3) := by decide +kernel
theorem dX6_shortest_79 : decode cX6_shortest 79 = .ok (.iconst 0, 1) := by decide +kernel
theorem dX6_shortest_80 : decode cX6_shortest 80 = .ok (.istore 5, 2) := by decide +kernel
theorem dX6_shortest_82 : decode cX6_shortest 82 = .ok (.aload_n 0, 1) := by decide +kernel
theorem dX6_shortest_83 : decode cX6_shortest 83 = .ok (.getfield 35, 3) := by decide +kernel
theorem dX6_shortest_86 : decode cX6_shortest 86 = .ok (.aload_n 0, 1) := by decide +kernel
theorem dX6_shortest_87 : decode cX6_shortest 87 = .ok (.iload 5, 2) := by decide +kernel
theorem dX6_shortest_89 : decode cX6_shortest 89 = .ok (.iload_n 3, 1) := by decide +kernel
theorem dX6_shortest_90 : decode cX6_shortest 90 = .ok (.invokevirtual 183, 3) := by decide +kernel
theorem dX6_shortest_93 : decode cX6_shortest 93 = .ok (.iaload, 1) := by decide +kernel
theorem dX6_shortest_94 : decode cX6_shortest 94 = .ok (.iload 4, 2) := by decide +kernel
theorem dX6_shortest_96 : decode cX6_shortest 96 = .ok (.iload 6, 2) := by decide +kernel
theorem dX6_shortest_98 : decode cX6_shortest 98 = .ok (.isub, 1) := by decide +kernel
theorem dX6_shortest_99 : decode cX6_shortest 99 = .ok (.iconst 1, 1) := by decide +kernel
theorem dX6_shortest_100 : decode cX6_shortest 100 = .ok (.isub, 1) := by decide +kernel
theorem dX6_shortest_101 : decode cX6_shortest 101 = .ok (.if_icmp .eq 9, 3) := by decide +kernel
theorem dX6_shortest_104 : decode cX6_shortest 104 = .ok (.iinc 5 1, 3) := by decide +kernel
theorem dX6_shortest_107 : decode cX6_shortest 107 = .ok (.goto (-25), 3) := by decide +kernel
theorem dX6_shortest_110 : decode cX6_shortest 110 = .ok (.aload_n 0, 1) := by decide +kernel
theorem dX6_shortest_111 : decode cX6_shortest 111 = .ok (.iload 5, 2) := by decide +kernel
theorem dX6_shortest_113 : decode cX6_shortest 113 = .ok (.iload_n 3, 1) := by decide +kernel
theorem dX6_shortest_114 : decode cX6_shortest 114 = .ok (.invokevirtual 183, 3) := by decide +kernel
theorem dX6_shortest_117 : decode cX6_shortest 117 = .ok (.istore_n 3, 1) := by decide +kernel
theorem dX6_shortest_118 : decode cX6_shortest 118 = .ok (.iinc 6 1, 3) := by decide +kernel
theorem dX6_shortest_121 : decode cX6_shortest 121 = .ok (.goto (-48), 3) := by decide +kernel
theorem dX6_shortest_124 : decode cX6_shortest 124 = .ok (.iload 5, 2) := by decide +kernel
theorem dX6_shortest_126 : decode cX6_shortest 126 = .ok (.ireturn, 1) := by decide +kernel
theorem dX6_sorts_0 : decode cX6_sorts 0 = .ok (.aload_n 0, 1) := by decide +kernel
theorem dX6_sorts_1 : decode cX6_sorts 1 = .ok (.aload_n 0, 1) := by decide +kernel
theorem dX6_sorts_2 : decode cX6_sorts 2 = .ok (.invokevirtual 78, 3) := by decide +kernel
theorem dX6_sorts_5 : decode cX6_sorts 5 = .ok (.invokevirtual 191, 3) := by decide +kernel
theorem dX6_sorts_8 : decode cX6_sorts 8 = .ok (.ireturn, 1) := by decide +kernel
theorem dX6_apartBy_0 : decode cX6_apartBy 0 = .ok (.iload_n 0, 1) := by decide +kernel
theorem dX6_apartBy_1 : decode cX6_apartBy 1 = .ok (.iload_n 1, 1) := by decide +kernel
theorem dX6_apartBy_2 : decode cX6_apartBy 2 = .ok (.if_icmp .ge 9, 3) := by decide +kernel
theorem dX6_apartBy_5 : decode cX6_apartBy 5 = .ok (.iload_n 1, 1) := by decide +kernel
theorem dX6_apartBy_6 : decode cX6_apartBy 6 = .ok (.iload_n 0, 1) := by decide +kernel
theorem dX6_apartBy_7 : decode cX6_apartBy 7 = .ok (.isub, 1) := by decide +kernel
theorem dX6_apartBy_8 : decode cX6_apartBy 8 = .ok (.goto 6, 3) := by decide +kernel
theorem dX6_apartBy_11 : decode cX6_apartBy 11 = .ok (.iload_n 0, 1) := by decide +kernel
theorem dX6_apartBy_12 : decode cX6_apartBy 12 = .ok (.iload_n 1, 1) := by decide +kernel
theorem dX6_apartBy_13 : decode cX6_apartBy 13 = .ok (.isub, 1) := by decide +kernel
theorem dX6_apartBy_14 : decode cX6_apartBy 14 = .ok (.istore_n 2, 1) := by decide +kernel
theorem dX6_apartBy_15 : decode cX6_apartBy 15 = .ok (.iload_n 2, 1) := by decide +kernel
theorem dX6_apartBy_16 : decode cX6_apartBy 16 = .ok (.iconst 4, 1) := by decide +kernel
theorem dX6_apartBy_17 : decode cX6_apartBy 17 = .ok (.if_icmp .le 10, 3) := by decide +kernel
theorem dX6_apartBy_20 : decode cX6_apartBy 20 = .ok (.bipush 8, 2) := by decide +kernel
theorem dX6_apartBy_22 : decode cX6_apartBy 22 = .ok (.iload_n 2, 1) := by decide +kernel
theorem dX6_apartBy_23 : decode cX6_apartBy 23 = .ok (.isub, 1) := by decide +kernel
theorem dX6_apartBy_24 : decode cX6_apartBy 24 = .ok (.goto 4, 3) := by decide +kernel
theorem dX6_apartBy_27 : decode cX6_apartBy 27 = .ok (.iload_n 2, 1) := by decide +kernel
theorem dX6_apartBy_28 : decode cX6_apartBy 28 = .ok (.ireturn, 1) := by decide +kernel
theorem dX6_apart_0 : decode cX6_apart 0 = .ok (.aload_n 0, 1) := by decide +kernel
theorem dX6_apart_1 : decode cX6_apart 1 = .ok (.iload_n 1, 1) := by decide +kernel
theorem dX6_apart_2 : decode cX6_apart 2 = .ok (.invokevirtual 100, 3) := by decide +kernel
theorem dX6_apart_5 : decode cX6_apart 5 = .ok (.ifCond .eq 26, 3) := by decide +kernel
theorem dX6_apart_8 : decode cX6_apart 8 = .ok (.aload_n 0, 1) := by decide +kernel
theorem dX6_apart_9 : decode cX6_apart 9 = .ok (.iload_n 2, 1) := by decide +kernel
theorem dX6_apart_10 : decode cX6_apart 10 = .ok (.invokevirtual 100, 3) := by decide +kernel
theorem dX6_apart_13 : decode cX6_apart 13 = .ok (.ifCond .eq 18, 3) := by decide +kernel
theorem dX6_apart_16 : decode cX6_apart 16 = .ok (.iload_n 1, 1) := by decide +kernel
theorem dX6_apart_17 : decode cX6_apart 17 = .ok (.iload_n 2, 1) := by decide +kernel
theorem dX6_apart_18 : decode cX6_apart 18 = .ok (.if_icmp .eq 13, 3) := by decide +kernel
theorem dX6_apart_21 : decode cX6_apart 21 = .ok (.iload_n 3, 1) := by decide +kernel
theorem dX6_apart_22 : decode cX6_apart 22 = .ok (.i2l, 1) := by decide +kernel
theorem dX6_apart_23 : decode cX6_apart 23 = .ok (.lconst 0, 1) := by decide +kernel
theorem dX6_apart_24 : decode cX6_apart 24 = .ok (.lconst 1, 1) := by decide +kernel
theorem dX6_apart_25 : decode cX6_apart 25 = .ok (.invokestatic 52, 3) := by decide +kernel
theorem dX6_apart_28 : decode cX6_apart 28 = .ok (.ifCond .ne 5, 3) := by decide +kernel
theorem dX6_apart_31 : decode cX6_apart 31 = .ok (.iconst (-1), 1) := by decide +kernel
theorem dX6_apart_32 : decode cX6_apart 32 = .ok (.ireturn, 1) := by decide +kernel
theorem dX6_apart_33 : decode cX6_apart 33 = .ok (.aload_n 0, 1) := by decide +kernel
theorem dX6_apart_34 : decode cX6_apart 34 = .ok (.getfield 7, 3) := by decide +kernel
theorem dX6_apart_37 : decode cX6_apart 37 = .ok (.iconst 5, 1) := by decide +kernel
theorem dX6_apart_38 : decode cX6_apart 38 = .ok (.iload_n 1, 1) := by decide +kernel
theorem dX6_apart_39 : decode cX6_apart 39 = .ok (.iadd, 1) := by decide +kernel
theorem dX6_apart_40 : decode cX6_apart 40 = .ok (.iaload, 1) := by decide +kernel
theorem dX6_apart_41 : decode cX6_apart 41 = .ok (.bipush (-4), 2) := by decide +kernel
theorem dX6_apart_43 : decode cX6_apart 43 = .ok (.if_icmp .eq 16, 3) := by decide +kernel
theorem dX6_apart_46 : decode cX6_apart 46 = .ok (.aload_n 0, 1) := by decide +kernel
theorem dX6_apart_47 : decode cX6_apart 47 = .ok (.getfield 7, 3) := by decide +kernel
theorem dX6_apart_50 : decode cX6_apart 50 = .ok (.iconst 5, 1) := by decide +kernel
theorem dX6_apart_51 : decode cX6_apart 51 = .ok (.iload_n 2, 1) := by decide +kernel
theorem dX6_apart_52 : decode cX6_apart 52 = .ok (.iadd, 1) := by decide +kernel
theorem dX6_apart_53 : decode cX6_apart 53 = .ok (.iaload, 1) := by decide +kernel
theorem dX6_apart_54 : decode cX6_apart 54 = .ok (.bipush (-4), 2) := by decide +kernel
theorem dX6_apart_56 : decode cX6_apart 56 = .ok (.if_icmp .ne 6, 3) := by decide +kernel
theorem dX6_apart_59 : decode cX6_apart 59 = .ok (.bipush (-2), 2) := by decide +kernel
theorem dX6_apart_61 : decode cX6_apart 61 = .ok (.ireturn, 1) := by decide +kernel
theorem dX6_apart_62 : decode cX6_apart 62 = .ok (.iconst 0, 1) := by decide +kernel
theorem dX6_apart_63 : decode cX6_apart 63 = .ok (.istore 4, 2) := by decide +kernel
theorem dX6_apart_65 : decode cX6_apart 65 = .ok (.iload 4, 2) := by decide +kernel
theorem dX6_apart_67 : decode cX6_apart 67 = .ok (.bipush 64, 2) := by decide +kernel
theorem dX6_apart_69 : decode cX6_apart 69 = .ok (.if_icmp .ge 18, 3) := by decide +kernel
theorem dX6_apart_72 : decode cX6_apart 72 = .ok (.aload_n 0, 1) := by decide +kernel
theorem dX6_apart_73 : decode cX6_apart 73 = .ok (.getfield 38, 3) := by decide +kernel
theorem dX6_apart_76 : decode cX6_apart 76 = .ok (.iload 4, 2) := by decide +kernel
theorem dX6_apart_78 : decode cX6_apart 78 = .ok (.ldc 182, 2) := by decide +kernel
theorem dX6_apart_80 : decode cX6_apart 80 = .ok (.iastore, 1) := by decide +kernel
theorem dX6_apart_81 : decode cX6_apart 81 = .ok (.iinc 4 1, 3) := by decide +kernel
theorem dX6_apart_84 : decode cX6_apart 84 = .ok (.goto (-19), 3) := by decide +kernel
theorem dX6_apart_87 : decode cX6_apart 87 = .ok (.iconst 1, 1) := by decide +kernel
theorem dX6_apart_88 : decode cX6_apart 88 = .ok (.istore 4, 2) := by decide +kernel
theorem dX6_apart_90 : decode cX6_apart 90 = .ok (.aload_n 0, 1) := by decide +kernel
theorem dX6_apart_91 : decode cX6_apart 91 = .ok (.getfield 32, 3) := by decide +kernel
theorem dX6_apart_94 : decode cX6_apart 94 = .ok (.iconst 0, 1) := by decide +kernel
theorem dX6_apart_95 : decode cX6_apart 95 = .ok (.bipush 8, 2) := by decide +kernel
theorem dX6_apart_97 : decode cX6_apart 97 = .ok (.aload_n 0, 1) := by decide +kernel
theorem dX6_apart_98 : decode cX6_apart 98 = .ok (.getfield 7, 3) := by decide +kernel
theorem dX6_apart_101 : decode cX6_apart 101 = .ok (.iconst 5, 1) := by decide +kernel
theorem dX6_apart_102 : decode cX6_apart 102 = .ok (.iload_n 1, 1) := by decide +kernel
theorem dX6_apart_103 : decode cX6_apart 103 = .ok (.iadd, 1) := by decide +kernel
theorem dX6_apart_104 : decode cX6_apart 104 = .ok (.iaload, 1) := by decide +kernel
theorem dX6_apart_105 : decode cX6_apart 105 = .ok (.imul, 1) := by decide +kernel
theorem dX6_apart_106 : decode cX6_apart 106 = .ok (.aload_n 0, 1) := by decide +kernel
theorem dX6_apart_107 : decode cX6_apart 107 = .ok (.getfield 7, 3) := by decide +kernel
theorem dX6_apart_110 : decode cX6_apart 110 = .ok (.iconst 5, 1) := by decide +kernel
theorem dX6_apart_111 : decode cX6_apart 111 = .ok (.iload_n 2, 1) := by decide +kernel
theorem dX6_apart_112 : decode cX6_apart 112 = .ok (.iadd, 1) := by decide +kernel
theorem dX6_apart_113 : decode cX6_apart 113 = .ok (.iaload, 1) := by decide +kernel
theorem dX6_apart_114 : decode cX6_apart 114 = .ok (.iadd, 1) := by decide +kernel
theorem dX6_apart_115 : decode cX6_apart 115 = .ok (.iastore, 1) := by decide +kernel
theorem dX6_apart_116 : decode cX6_apart 116 = .ok (.aload_n 0, 1) := by decide +kernel
theorem dX6_apart_117 : decode cX6_apart 117 = .ok (.getfield 38, 3) := by decide +kernel
theorem dX6_apart_120 : decode cX6_apart 120 = .ok (.aload_n 0, 1) := by decide +kernel
theorem dX6_apart_121 : decode cX6_apart 121 = .ok (.getfield 32, 3) := by decide +kernel
theorem dX6_apart_124 : decode cX6_apart 124 = .ok (.iconst 0, 1) := by decide +kernel
theorem dX6_apart_125 : decode cX6_apart 125 = .ok (.iaload, 1) := by decide +kernel
theorem dX6_apart_126 : decode cX6_apart 126 = .ok (.iconst 0, 1) := by decide +kernel
theorem dX6_apart_127 : decode cX6_apart 127 = .ok (.iastore, 1) := by decide +kernel
theorem dX6_apart_128 : decode cX6_apart 128 = .ok (.ldc 182, 2) := by decide +kernel
theorem dX6_apart_130 : decode cX6_apart 130 = .ok (.istore 5, 2) := by decide +kernel
theorem dX6_apart_132 : decode cX6_apart 132 = .ok (.iconst (-1), 1) := by decide +kernel
theorem dX6_apart_133 : decode cX6_apart 133 = .ok (.istore 6, 2) := by decide +kernel
theorem dX6_apart_135 : decode cX6_apart 135 = .ok (.iconst 0, 1) := by decide +kernel
theorem dX6_apart_136 : decode cX6_apart 136 = .ok (.istore 7, 2) := by decide +kernel
theorem dX6_apart_138 : decode cX6_apart 138 = .ok (.iload 7, 2) := by decide +kernel
theorem dX6_apart_140 : decode cX6_apart 140 = .ok (.iload 4, 2) := by decide +kernel
theorem dX6_apart_142 : decode cX6_apart 142 = .ok (.if_icmp .ge 158, 3) := by decide +kernel
theorem dX6_apart_145 : decode cX6_apart 145 = .ok (.aload_n 0, 1) := by decide +kernel
theorem dX6_apart_146 : decode cX6_apart 146 = .ok (.getfield 32, 3) := by decide +kernel
theorem dX6_apart_149 : decode cX6_apart 149 = .ok (.iload 7, 2) := by decide +kernel
theorem dX6_apart_151 : decode cX6_apart 151 = .ok (.iaload, 1) := by decide +kernel
theorem dX6_apart_152 : decode cX6_apart 152 = .ok (.istore 8, 2) := by decide +kernel
theorem dX6_apart_154 : decode cX6_apart 154 = .ok (.iload 8, 2) := by decide +kernel
theorem dX6_apart_156 : decode cX6_apart 156 = .ok (.bipush 8, 2) := by decide +kernel
theorem dX6_apart_158 : decode cX6_apart 158 = .ok (.idiv, 1) := by decide +kernel
theorem dX6_apart_159 : decode cX6_apart 159 = .ok (.iload 8, 2) := by decide +kernel
theorem dX6_apart_161 : decode cX6_apart 161 = .ok (.bipush 8, 2) := by decide +kernel
theorem dX6_apart_163 : decode cX6_apart 163 = .ok (.irem, 1) := by decide +kernel
theorem dX6_apart_164 : decode cX6_apart 164 = .ok (.invokestatic 194, 3) := by decide +kernel
theorem dX6_apart_167 : decode cX6_apart 167 = .ok (.istore 9, 2) := by decide +kernel
theorem dX6_apart_169 : decode cX6_apart 169 = .ok (.iload 9, 2) := by decide +kernel
theorem dX6_apart_171 : decode cX6_apart 171 = .ok (.iload 6, 2) := by decide +kernel
theorem dX6_apart_173 : decode cX6_apart 173 = .ok (.if_icmp .le 13, 3) := by decide +kernel
theorem dX6_apart_176 : decode cX6_apart 176 = .ok (.aload_n 0, 1) := by decide +kernel
theorem dX6_apart_177 : decode cX6_apart 177 = .ok (.getfield 38, 3) := by decide +kernel
theorem dX6_apart_180 : decode cX6_apart 180 = .ok (.iload 8, 2) := by decide +kernel
theorem dX6_apart_182 : decode cX6_apart 182 = .ok (.iaload, 1) := by decide +kernel
theorem dX6_apart_183 : decode cX6_apart 183 = .ok (.goto 5, 3) := by decide +kernel
theorem dX6_apart_186 : decode cX6_apart 186 = .ok (.iload 5, 2) := by decide +kernel
theorem dX6_apart_188 : decode cX6_apart 188 = .ok (.istore 5, 2) := by decide +kernel
theorem dX6_apart_190 : decode cX6_apart 190 = .ok (.iload 9, 2) := by decide +kernel
theorem dX6_apart_192 : decode cX6_apart 192 = .ok (.iload 6, 2) := by decide +kernel
theorem dX6_apart_194 : decode cX6_apart 194 = .ok (.if_icmp .le 8, 3) := by decide +kernel
theorem dX6_apart_197 : decode cX6_apart 197 = .ok (.iload 9, 2) := by decide +kernel
theorem dX6_apart_199 : decode cX6_apart 199 = .ok (.goto 5, 3) := by decide +kernel
theorem dX6_apart_202 : decode cX6_apart 202 = .ok (.iload 6, 2) := by decide +kernel
theorem dX6_apart_204 : decode cX6_apart 204 = .ok (.istore 6, 2) := by decide +kernel
theorem dX6_apart_206 : decode cX6_apart 206 = .ok (.iconst 0, 1) := by decide +kernel
theorem dX6_apart_207 : decode cX6_apart 207 = .ok (.istore 10, 2) := by decide +kernel
theorem dX6_apart_209 : decode cX6_apart 209 = .ok (.iload 10, 2) := by decide +kernel
theorem dX6_apart_211 : decode cX6_apart 211 = .ok (.aload_n 0, 1) := by decide +kernel
theorem dX6_apart_212 : decode cX6_apart 212 = .ok (.getfield 7, 3) := by decide +kernel
theorem dX6_apart_215 : decode cX6_apart 215 = .ok (.iconst 1, 1) := by decide +kernel
theorem dX6_apart_216 : decode cX6_apart 216 = .ok (.iaload, 1) := by decide +kernel
theorem dX6_apart_217 : decode cX6_apart 217 = .ok (.if_icmp .ge 77, 3) := by decide +kernel
theorem dX6_apart_220 : decode cX6_apart 220 = .ok (.bipush 8, 2) := by decide +kernel
theorem dX6_apart_222 : decode cX6_apart 222 = .ok (.aload_n 0, 1) := by decide +kernel
theorem dX6_apart_223 : decode cX6_apart 223 = .ok (.iload 10, 2) := by decide +kernel
theorem dX6_apart_225 : decode cX6_apart 225 = .ok (.iload 8, 2) := by decide +kernel
theorem dX6_apart_227 : decode cX6_apart 227 = .ok (.bipush 8, 2) := by decide +kernel
theorem dX6_apart_229 : decode cX6_apart 229 = .ok (.idiv, 1) := by decide +kernel
theorem dX6_apart_230 : decode cX6_apart 230 = .ok (.invokevirtual 67, 3) := by decide +kernel
theorem dX6_apart_233 : decode cX6_apart 233 = .ok (.imul, 1) := by decide +kernel
theorem dX6_apart_234 : decode cX6_apart 234 = .ok (.aload_n 0, 1) := by decide +kernel
theorem dX6_apart_235 : decode cX6_apart 235 = .ok (.iload 10, 2) := by decide +kernel
theorem dX6_apart_237 : decode cX6_apart 237 = .ok (.iload 8, 2) := by decide +kernel
theorem dX6_apart_239 : decode cX6_apart 239 = .ok (.bipush 8, 2) := by decide +kernel
theorem dX6_apart_241 : decode cX6_apart 241 = .ok (.irem, 1) := by decide +kernel
theorem dX6_apart_242 : decode cX6_apart 242 = .ok (.invokevirtual 67, 3) := by decide +kernel
theorem dX6_apart_245 : decode cX6_apart 245 = .ok (.iadd, 1) := by decide +kernel
theorem dX6_apart_246 : decode cX6_apart 246 = .ok (.istore 11, 2) := by decide +kernel
theorem dX6_apart_248 : decode cX6_apart 248 = .ok (.aload_n 0, 1) := by decide +kernel
theorem dX6_apart_249 : decode cX6_apart 249 = .ok (.getfield 38, 3) := by decide +kernel
theorem dX6_apart_252 : decode cX6_apart 252 = .ok (.iload 11, 2) := by decide +kernel
theorem dX6_apart_254 : decode cX6_apart 254 = .ok (.iaload, 1) := by decide +kernel
theorem dX6_apart_255 : decode cX6_apart 255 = .ok (.ldc 182, 2) := by decide +kernel
theorem dX6_apart_257 : decode cX6_apart 257 = .ok (.if_icmp .ne 31, 3) := by decide +kernel
theorem dX6_apart_260 : decode cX6_apart 260 = .ok (.aload_n 0, 1) := by decide +kernel
theorem dX6_apart_261 : decode cX6_apart 261 = .ok (.getfield 38, 3) := by decide +kernel
theorem dX6_apart_264 : decode cX6_apart 264 = .ok (.iload 11, 2) := by decide +kernel
theorem dX6_apart_266 : decode cX6_apart 266 = .ok (.aload_n 0, 1) := by decide +kernel
theorem dX6_apart_267 : decode cX6_apart 267 = .ok (.getfield 38, 3) := by decide +kernel
theorem dX6_apart_270 : decode cX6_apart 270 = .ok (.iload 8, 2) := by decide +kernel
theorem dX6_apart_272 : decode cX6_apart 272 = .ok (.iaload, 1) := by decide +kernel
theorem dX6_apart_273 : decode cX6_apart 273 = .ok (.iconst 1, 1) := by decide +kernel
theorem dX6_apart_274 : decode cX6_apart 274 = .ok (.iadd, 1) := by decide +kernel
theorem dX6_apart_275 : decode cX6_apart 275 = .ok (.iastore, 1) := by decide +kernel
theorem dX6_apart_276 : decode cX6_apart 276 = .ok (.aload_n 0, 1) := by decide +kernel
theorem dX6_apart_277 : decode cX6_apart 277 = .ok (.getfield 32, 3) := by decide +kernel
theorem dX6_apart_280 : decode cX6_apart 280 = .ok (.iload 4, 2) := by decide +kernel
theorem dX6_apart_282 : decode cX6_apart 282 = .ok (.iload 11, 2) := by decide +kernel
theorem dX6_apart_284 : decode cX6_apart 284 = .ok (.iastore, 1) := by decide +kernel
theorem dX6_apart_285 : decode cX6_apart 285 = .ok (.iinc 4 1, 3) := by decide +kernel
theorem dX6_apart_288 : decode cX6_apart 288 = .ok (.iinc 10 1, 3) := by decide +kernel
theorem dX6_apart_291 : decode cX6_apart 291 = .ok (.goto (-82), 3) := by decide +kernel
theorem dX6_apart_294 : decode cX6_apart 294 = .ok (.iinc 7 1, 3) := by decide +kernel
theorem dX6_apart_297 : decode cX6_apart 297 = .ok (.goto (-159), 3) := by decide +kernel
theorem dX6_apart_300 : decode cX6_apart 300 = .ok (.iload_n 3, 1) := by decide +kernel
theorem dX6_apart_301 : decode cX6_apart 301 = .ok (.ifCond .ne 8, 3) := by decide +kernel
theorem dX6_apart_304 : decode cX6_apart 304 = .ok (.iload 5, 2) := by decide +kernel
theorem dX6_apart_306 : decode cX6_apart 306 = .ok (.goto 5, 3) := by decide +kernel
theorem dX6_apart_309 : decode cX6_apart 309 = .ok (.iload 6, 2) := by decide +kernel
theorem dX6_apart_311 : decode cX6_apart 311 = .ok (.ireturn, 1) := by decide +kernel
theorem dX6_chance_0 : decode cX6_chance 0 = .ok (.aload_n 0, 1) := by decide +kernel
theorem dX6_chance_1 : decode cX6_chance 1 = .ok (.iload_n 1, 1) := by decide +kernel
theorem dX6_chance_2 : decode cX6_chance 2 = .ok (.invokevirtual 100, 3) := by decide +kernel
theorem dX6_chance_5 : decode cX6_chance 5 = .ok (.ifCond .eq 33, 3) := by decide +kernel
theorem dX6_chance_8 : decode cX6_chance 8 = .ok (.iload_n 2, 1) := by decide +kernel
theorem dX6_chance_9 : decode cX6_chance 9 = .ok (.invokestatic 74, 3) := by decide +kernel
theorem dX6_chance_12 : decode cX6_chance 12 = .ok (.ifCond .eq 26, 3) := by decide +kernel
theorem dX6_chance_15 : decode cX6_chance 15 = .ok (.iload_n 3, 1) := by decide +kernel
theorem dX6_chance_16 : decode cX6_chance 16 = .ok (.i2l, 1) := by decide +kernel
theorem dX6_chance_17 : decode cX6_chance 17 = .ok (.lconst 0, 1) := by decide +kernel
theorem dX6_chance_18 : decode cX6_chance 18 = .ok (.ldc2_w 197, 3) := by decide +kernel
theorem dX6_chance_21 : decode cX6_chance 21 = .ok (.invokestatic 52, 3) := by decide +kernel
theorem dX6_chance_24 : decode cX6_chance 24 = .ok (.ifCond .eq 14, 3) := by decide +kernel
theorem dX6_chance_27 : decode cX6_chance 27 = .ok (.iload 4, 2) := by decide +kernel
theorem dX6_chance_29 : decode cX6_chance 29 = .ok (.i2l, 1) := by decide +kernel
theorem dX6_chance_30 : decode cX6_chance 30 = .ok (.lconst 0, 1) := by decide +kernel
theorem dX6_chance_31 : decode cX6_chance 31 = .ok (.lconst 1, 1) := by decide +kernel
theorem dX6_chance_32 : decode cX6_chance 32 = .ok (.invokestatic 52, 3) := by decide +kernel
theorem dX6_chance_35 : decode cX6_chance 35 = .ok (.ifCond .ne 5, 3) := by decide +kernel
theorem dX6_chance_38 : decode cX6_chance 38 = .ok (.iconst (-1), 1) := by decide +kernel
theorem dX6_chance_39 : decode cX6_chance 39 = .ok (.ireturn, 1) := by decide +kernel
theorem dX6_chance_40 : decode cX6_chance 40 = .ok (.aload_n 0, 1) := by decide +kernel
theorem dX6_chance_41 : decode cX6_chance 41 = .ok (.getfield 7, 3) := by decide +kernel
theorem dX6_chance_44 : decode cX6_chance 44 = .ok (.iconst 5, 1) := by decide +kernel
theorem dX6_chance_45 : decode cX6_chance 45 = .ok (.iload_n 1, 1) := by decide +kernel
theorem dX6_chance_46 : decode cX6_chance 46 = .ok (.iadd, 1) := by decide +kernel
theorem dX6_chance_47 : decode cX6_chance 47 = .ok (.iaload, 1) := by decide +kernel
theorem dX6_chance_48 : decode cX6_chance 48 = .ok (.bipush (-4), 2) := by decide +kernel
theorem dX6_chance_50 : decode cX6_chance 50 = .ok (.if_icmp .eq 12, 3) := by decide +kernel
theorem dX6_chance_53 : decode cX6_chance 53 = .ok (.aload_n 0, 1) := by decide +kernel
theorem dX6_chance_54 : decode cX6_chance 54 = .ok (.getfield 7, 3) := by decide +kernel
theorem dX6_chance_57 : decode cX6_chance 57 = .ok (.iconst 1, 1) := by decide +kernel
theorem dX6_chance_58 : decode cX6_chance 58 = .ok (.iaload, 1) := by decide +kernel
theorem dX6_chance_59 : decode cX6_chance 59 = .ok (.ifCond .ne 6, 3) := by decide +kernel
theorem dX6_chance_62 : decode cX6_chance 62 = .ok (.bipush (-2), 2) := by decide +kernel
theorem dX6_chance_64 : decode cX6_chance 64 = .ok (.ireturn, 1) := by decide +kernel
theorem dX6_chance_65 : decode cX6_chance 65 = .ok (.lconst 1, 1) := by decide +kernel
theorem dX6_chance_66 : decode cX6_chance 66 = .ok (.lstore 5, 2) := by decide +kernel
theorem dX6_chance_68 : decode cX6_chance 68 = .ok (.iconst 0, 1) := by decide +kernel
theorem dX6_chance_69 : decode cX6_chance 69 = .ok (.istore 7, 2) := by decide +kernel
theorem dX6_chance_71 : decode cX6_chance 71 = .ok (.iload 7, 2) := by decide +kernel
theorem dX6_chance_73 : decode cX6_chance 73 = .ok (.bipush 8, 2) := by decide +kernel
theorem dX6_chance_75 : decode cX6_chance 75 = .ok (.if_icmp .ge 34, 3) := by decide +kernel
theorem dX6_chance_78 : decode cX6_chance 78 = .ok (.aload_n 0, 1) := by decide +kernel
theorem dX6_chance_79 : decode cX6_chance 79 = .ok (.getfield 41, 3) := by decide +kernel
theorem dX6_chance_82 : decode cX6_chance 82 = .ok (.iload 7, 2) := by decide +kernel
theorem dX6_chance_84 : decode cX6_chance 84 = .ok (.iload 7, 2) := by decide +kernel
theorem dX6_chance_86 : decode cX6_chance 86 = .ok (.aload_n 0, 1) := by decide +kernel
theorem dX6_chance_87 : decode cX6_chance 87 = .ok (.getfield 7, 3) := by decide +kernel
theorem dX6_chance_90 : decode cX6_chance 90 = .ok (.iconst 5, 1) := by decide +kernel
theorem dX6_chance_91 : decode cX6_chance 91 = .ok (.iload_n 1, 1) := by decide +kernel
theorem dX6_chance_92 : decode cX6_chance 92 = .ok (.iadd, 1) := by decide +kernel
theorem dX6_chance_93 : decode cX6_chance 93 = .ok (.iaload, 1) := by decide +kernel
theorem dX6_chance_94 : decode cX6_chance 94 = .ok (.if_icmp .ne 7, 3) := by decide +kernel
theorem dX6_chance_97 : decode cX6_chance 97 = .ok (.lconst 1, 1) := by decide +kernel
theorem dX6_chance_98 : decode cX6_chance 98 = .ok (.goto 4, 3) := by decide +kernel
theorem dX6_chance_101 : decode cX6_chance 101 = .ok (.lconst 0, 1) := by decide +kernel
theorem dX6_chance_102 : decode cX6_chance 102 = .ok (.lastore, 1) := by decide +kernel
theorem dX6_chance_103 : decode cX6_chance 103 = .ok (.iinc 7 1, 3) := by decide +kernel
theorem dX6_chance_106 : decode cX6_chance 106 = .ok (.goto (-35), 3) := by decide +kernel
theorem dX6_chance_109 : decode cX6_chance 109 = .ok (.iconst 0, 1) := by decide +kernel
theorem dX6_chance_110 : decode cX6_chance 110 = .ok (.istore 7, 2) := by decide +kernel
theorem dX6_chance_112 : decode cX6_chance 112 = .ok (.iload 7, 2) := by decide +kernel
theorem dX6_chance_114 : decode cX6_chance 114 = .ok (.iload_n 3, 1) := by decide +kernel
theorem dX6_chance_115 : decode cX6_chance 115 = .ok (.if_icmp .ge 134, 3) := by decide +kernel
theorem dX6_chance_118 : decode cX6_chance 118 = .ok (.lload 5, 2) := by decide +kernel
theorem dX6_chance_120 : decode cX6_chance 120 = .ok (.aload_n 0, 1) := by decide +kernel
theorem dX6_chance_121 : decode cX6_chance 121 = .ok (.getfield 7, 3) := by decide +kernel
theorem dX6_chance_124 : decode cX6_chance 124 = .ok (.iconst 1, 1) := by decide +kernel
theorem dX6_chance_125 : decode cX6_chance 125 = .ok (.iaload, 1) := by decide +kernel
theorem dX6_chance_126 : decode cX6_chance 126 = .ok (.i2l, 1) := by decide +kernel
theorem dX6_chance_127 : decode cX6_chance 127 = .ok (.lmul, 1) := by decide +kernel
theorem dX6_chance_128 : decode cX6_chance 128 = .ok (.lstore 5, 2) := by decide +kernel
theorem dX6_chance_130 : decode cX6_chance 130 = .ok (.iconst 0, 1) := by decide +kernel
theorem dX6_chance_131 : decode cX6_chance 131 = .ok (.istore 8, 2) := by decide +kernel
theorem dX6_chance_133 : decode cX6_chance 133 = .ok (.iload 8, 2) := by decide +kernel
theorem dX6_chance_135 : decode cX6_chance 135 = .ok (.bipush 8, 2) := by decide +kernel
theorem dX6_chance_137 : decode cX6_chance 137 = .ok (.if_icmp .ge 17, 3) := by decide +kernel
theorem dX6_chance_140 : decode cX6_chance 140 = .ok (.aload_n 0, 1) := by decide +kernel
theorem dX6_chance_141 : decode cX6_chance 141 = .ok (.getfield 44, 3) := by decide +kernel
theorem dX6_chance_144 : decode cX6_chance 144 = .ok (.iload 8, 2) := by decide +kernel
theorem dX6_chance_146 : decode cX6_chance 146 = .ok (.lconst 0, 1) := by decide +kernel
theorem dX6_chance_147 : decode cX6_chance 147 = .ok (.lastore, 1) := by decide +kernel
theorem dX6_chance_148 : decode cX6_chance 148 = .ok (.iinc 8 1, 3) := by decide +kernel
theorem dX6_chance_151 : decode cX6_chance 151 = .ok (.goto (-18), 3) := by decide +kernel
theorem dX6_chance_154 : decode cX6_chance 154 = .ok (.iconst 0, 1) := by decide +kernel
theorem dX6_chance_155 : decode cX6_chance 155 = .ok (.istore 8, 2) := by decide +kernel
theorem dX6_chance_157 : decode cX6_chance 157 = .ok (.iload 8, 2) := by decide +kernel
theorem dX6_chance_159 : decode cX6_chance 159 = .ok (.bipush 8, 2) := by decide +kernel
theorem dX6_chance_161 : decode cX6_chance 161 = .ok (.if_icmp .ge 52, 3) := by decide +kernel
theorem dX6_chance_164 : decode cX6_chance 164 = .ok (.iconst 0, 1) := by decide +kernel
theorem dX6_chance_165 : decode cX6_chance 165 = .ok (.istore 9, 2) := by decide +kernel
theorem dX6_chance_167 : decode cX6_chance 167 = .ok (.iload 9, 2) := by decide +kernel
theorem dX6_chance_169 : decode cX6_chance 169 = .ok (.aload_n 0, 1) := by decide +kernel
theorem dX6_chance_170 : decode cX6_chance 170 = .ok (.getfield 7, 3) := by decide +kernel
theorem dX6_chance_173 : decode cX6_chance 173 = .ok (.iconst 1, 1) := by decide +kernel
theorem dX6_chance_174 : decode cX6_chance 174 = .ok (.iaload, 1) := by decide +kernel
theorem dX6_chance_175 : decode cX6_chance 175 = .ok (.if_icmp .ge 32, 3) := by decide +kernel
theorem dX6_chance_178 : decode cX6_chance 178 = .ok (.aload_n 0, 1) := by decide +kernel
theorem dX6_chance_179 : decode cX6_chance 179 = .ok (.getfield 44, 3) := by decide +kernel
theorem dX6_chance_182 : decode cX6_chance 182 = .ok (.aload_n 0, 1) := by decide +kernel
theorem dX6_chance_183 : decode cX6_chance 183 = .ok (.iload 9, 2) := by decide +kernel
theorem dX6_chance_185 : decode cX6_chance 185 = .ok (.iload 8, 2) := by decide +kernel
theorem dX6_chance_187 : decode cX6_chance 187 = .ok (.invokevirtual 67, 3) := by decide +kernel
theorem dX6_chance_190 : decode cX6_chance 190 = .ok (.dup2, 1) := by decide +kernel
theorem dX6_chance_191 : decode cX6_chance 191 = .ok (.laload, 1) := by decide +kernel
theorem dX6_chance_192 : decode cX6_chance 192 = .ok (.aload_n 0, 1) := by decide +kernel
theorem dX6_chance_193 : decode cX6_chance 193 = .ok (.getfield 41, 3) := by decide +kernel
theorem dX6_chance_196 : decode cX6_chance 196 = .ok (.iload 8, 2) := by decide +kernel
theorem dX6_chance_198 : decode cX6_chance 198 = .ok (.laload, 1) := by decide +kernel
theorem dX6_chance_199 : decode cX6_chance 199 = .ok (.ladd, 1) := by decide +kernel
theorem dX6_chance_200 : decode cX6_chance 200 = .ok (.lastore, 1) := by decide +kernel
theorem dX6_chance_201 : decode cX6_chance 201 = .ok (.iinc 9 1, 3) := by decide +kernel
theorem dX6_chance_204 : decode cX6_chance 204 = .ok (.goto (-37), 3) := by decide +kernel
theorem dX6_chance_207 : decode cX6_chance 207 = .ok (.iinc 8 1, 3) := by decide +kernel
theorem dX6_chance_210 : decode cX6_chance 210 = .ok (.goto (-53), 3) := by decide +kernel
theorem dX6_chance_213 : decode cX6_chance 213 = .ok (.iconst 0, 1) := by decide +kernel
theorem dX6_chance_214 : decode cX6_chance 214 = .ok (.istore 8, 2) := by decide +kernel
theorem dX6_chance_216 : decode cX6_chance 216 = .ok (.iload 8, 2) := by decide +kernel
theorem dX6_chance_218 : decode cX6_chance 218 = .ok (.bipush 8, 2) := by decide +kernel
theorem dX6_chance_220 : decode cX6_chance 220 = .ok (.if_icmp .ge 23, 3) := by decide +kernel
theorem dX6_chance_223 : decode cX6_chance 223 = .ok (.aload_n 0, 1) := by decide +kernel
theorem dX6_chance_224 : decode cX6_chance 224 = .ok (.getfield 41, 3) := by decide +kernel
theorem dX6_chance_227 : decode cX6_chance 227 = .ok (.iload 8, 2) := by decide +kernel
theorem dX6_chance_229 : decode cX6_chance 229 = .ok (.aload_n 0, 1) := by decide +kernel
theorem dX6_chance_230 : decode cX6_chance 230 = .ok (.getfield 44, 3) := by decide +kernel
theorem dX6_chance_233 : decode cX6_chance 233 = .ok (.iload 8, 2) := by decide +kernel
theorem dX6_chance_235 : decode cX6_chance 235 = .ok (.laload, 1) := by decide +kernel
theorem dX6_chance_236 : decode cX6_chance 236 = .ok (.lastore, 1) := by decide +kernel
theorem dX6_chance_237 : decode cX6_chance 237 = .ok (.iinc 8 1, 3) := by decide +kernel
theorem dX6_chance_240 : decode cX6_chance 240 = .ok (.goto (-24), 3) := by decide +kernel
theorem dX6_chance_243 : decode cX6_chance 243 = .ok (.iinc 7 1, 3) := by decide +kernel
theorem dX6_chance_246 : decode cX6_chance 246 = .ok (.goto (-134), 3) := by decide +kernel
theorem dX6_chance_249 : decode cX6_chance 249 = .ok (.aload_n 0, 1) := by decide +kernel
theorem dX6_chance_250 : decode cX6_chance 250 = .ok (.getfield 41, 3) := by decide +kernel
theorem dX6_chance_253 : decode cX6_chance 253 = .ok (.iload_n 2, 1) := by decide +kernel
theorem dX6_chance_254 : decode cX6_chance 254 = .ok (.laload, 1) := by decide +kernel
theorem dX6_chance_255 : decode cX6_chance 255 = .ok (.lstore 7, 2) := by decide +kernel
theorem dX6_chance_257 : decode cX6_chance 257 = .ok (.lload 5, 2) := by decide +kernel
theorem dX6_chance_259 : decode cX6_chance 259 = .ok (.lstore 9, 2) := by decide +kernel
theorem dX6_chance_261 : decode cX6_chance 261 = .ok (.lload 9, 2) := by decide +kernel
theorem dX6_chance_263 : decode cX6_chance 263 = .ok (.lconst 0, 1) := by decide +kernel
theorem dX6_chance_264 : decode cX6_chance 264 = .ok (.lcmp, 1) := by decide +kernel
theorem dX6_chance_265 : decode cX6_chance 265 = .ok (.ifCond .eq 21, 3) := by decide +kernel
theorem dX6_chance_268 : decode cX6_chance 268 = .ok (.lload 7, 2) := by decide +kernel
theorem dX6_chance_270 : decode cX6_chance 270 = .ok (.lload 9, 2) := by decide +kernel
theorem dX6_chance_272 : decode cX6_chance 272 = .ok (.lrem, 1) := by decide +kernel
theorem dX6_chance_273 : decode cX6_chance 273 = .ok (.lstore 11, 2) := by decide +kernel
theorem dX6_chance_275 : decode cX6_chance 275 = .ok (.lload 9, 2) := by decide +kernel
theorem dX6_chance_277 : decode cX6_chance 277 = .ok (.lstore 7, 2) := by decide +kernel
theorem dX6_chance_279 : decode cX6_chance 279 = .ok (.lload 11, 2) := by decide +kernel
theorem dX6_chance_281 : decode cX6_chance 281 = .ok (.lstore 9, 2) := by decide +kernel
theorem dX6_chance_283 : decode cX6_chance 283 = .ok (.goto (-22), 3) := by decide +kernel
theorem dX6_chance_286 : decode cX6_chance 286 = .ok (.iload 4, 2) := by decide +kernel
theorem dX6_chance_288 : decode cX6_chance 288 = .ok (.ifCond .ne 15, 3) := by decide +kernel
theorem dX6_chance_291 : decode cX6_chance 291 = .ok (.aload_n 0, 1) := by decide +kernel
theorem dX6_chance_292 : decode cX6_chance 292 = .ok (.getfield 41, 3) := by decide +kernel
theorem dX6_chance_295 : decode cX6_chance 295 = .ok (.iload_n 2, 1) := by decide +kernel
theorem dX6_chance_296 : decode cX6_chance 296 = .ok (.laload, 1) := by decide +kernel
theorem dX6_chance_297 : decode cX6_chance 297 = .ok (.lload 7, 2) := by decide +kernel
theorem dX6_chance_299 : decode cX6_chance 299 = .ok (.ldiv, 1) := by decide +kernel
theorem dX6_chance_300 : decode cX6_chance 300 = .ok (.goto 8, 3) := by decide +kernel
theorem dX6_chance_303 : decode cX6_chance 303 = .ok (.lload 5, 2) := by decide +kernel
theorem dX6_chance_305 : decode cX6_chance 305 = .ok (.lload 7, 2) := by decide +kernel
theorem dX6_chance_307 : decode cX6_chance 307 = .ok (.ldiv, 1) := by decide +kernel
theorem dX6_chance_308 : decode cX6_chance 308 = .ok (.l2i, 1) := by decide +kernel
theorem dX6_chance_309 : decode cX6_chance 309 = .ok (.ireturn, 1) := by decide +kernel
theorem dX6_image_0 : decode cX6_image 0 = .ok (.aload_n 0, 1) := by decide +kernel
theorem dX6_image_1 : decode cX6_image 1 = .ok (.iconst 0, 1) := by decide +kernel
theorem dX6_image_2 : decode cX6_image 2 = .ok (.bipush 120, 2) := by decide +kernel
theorem dX6_image_4 : decode cX6_image 4 = .ok (.bipush 120, 2) := by decide +kernel
theorem dX6_image_6 : decode cX6_image 6 = .ok (.invokevirtual 139, 3) := by decide +kernel
theorem dX6_image_9 : decode cX6_image 9 = .ok (.aload_n 0, 1) := by decide +kernel
theorem dX6_image_10 : decode cX6_image 10 = .ok (.iconst 1, 1) := by decide +kernel
theorem dX6_image_11 : decode cX6_image 11 = .ok (.putfield 199, 3) := by decide +kernel
theorem dX6_image_14 : decode cX6_image 14 = .ok (.iconst 1, 1) := by decide +kernel
theorem dX6_image_15 : decode cX6_image 15 = .ok (.ireturn, 1) := by decide +kernel
theorem dX6_restore_0 : decode cX6_restore 0 = .ok (.aload_n 0, 1) := by decide +kernel
theorem dX6_restore_1 : decode cX6_restore 1 = .ok (.getfield 199, 3) := by decide +kernel
theorem dX6_restore_4 : decode cX6_restore 4 = .ok (.ifCond .ne 6, 3) := by decide +kernel
theorem dX6_restore_7 : decode cX6_restore 7 = .ok (.bipush (-4), 2) := by decide +kernel
theorem dX6_restore_9 : decode cX6_restore 9 = .ok (.ireturn, 1) := by decide +kernel
theorem dX6_restore_10 : decode cX6_restore 10 = .ok (.aload_n 0, 1) := by decide +kernel
theorem dX6_restore_11 : decode cX6_restore 11 = .ok (.bipush 120, 2) := by decide +kernel
theorem dX6_restore_13 : decode cX6_restore 13 = .ok (.iconst 0, 1) := by decide +kernel
theorem dX6_restore_14 : decode cX6_restore 14 = .ok (.bipush 120, 2) := by decide +kernel
theorem dX6_restore_16 : decode cX6_restore 16 = .ok (.invokevirtual 139, 3) := by decide +kernel
theorem dX6_restore_19 : decode cX6_restore 19 = .ok (.iconst 1, 1) := by decide +kernel
theorem dX6_restore_20 : decode cX6_restore 20 = .ok (.ireturn, 1) := by decide +kernel
theorem dX6_isSheet_0 : decode cX6_isSheet 0 = .ok (.iload_n 0, 1) := by decide +kernel
theorem dX6_isSheet_1 : decode cX6_isSheet 1 = .ok (.i2l, 1) := by decide +kernel
theorem dX6_isSheet_2 : decode cX6_isSheet 2 = .ok (.lconst 0, 1) := by decide +kernel
theorem dX6_isSheet_3 : decode cX6_isSheet 3 = .ok (.ldc2_w 203, 3) := by decide +kernel
theorem dX6_isSheet_6 : decode cX6_isSheet 6 = .ok (.invokestatic 52, 3) := by decide +kernel
theorem dX6_isSheet_9 : decode cX6_isSheet 9 = .ok (.ireturn, 1) := by decide +kernel
theorem dX6_isLane_0 : decode cX6_isLane 0 = .ok (.iload_n 0, 1) := by decide +kernel
theorem dX6_isLane_1 : decode cX6_isLane 1 = .ok (.invokestatic 205, 3) := by decide +kernel
theorem dX6_isLane_4 : decode cX6_isLane 4 = .ok (.ifCond .eq 19, 3) := by decide +kernel
theorem dX6_isLane_7 : decode cX6_isLane 7 = .ok (.iload_n 1, 1) := by decide +kernel
theorem dX6_isLane_8 : decode cX6_isLane 8 = .ok (.i2l, 1) := by decide +kernel
theorem dX6_isLane_9 : decode cX6_isLane 9 = .ok (.lconst 0, 1) := by decide +kernel
theorem dX6_isLane_10 : decode cX6_isLane 10 = .ok (.ldc2_w 203, 3) := by decide +kernel
theorem dX6_isLane_13 : decode cX6_isLane 13 = .ok (.invokestatic 52, 3) := by decide +kernel
theorem dX6_isLane_16 : decode cX6_isLane 16 = .ok (.ifCond .eq 7, 3) := by decide +kernel
theorem dX6_isLane_19 : decode cX6_isLane 19 = .ok (.iconst 1, 1) := by decide +kernel
theorem dX6_isLane_20 : decode cX6_isLane 20 = .ok (.goto 4, 3) := by decide +kernel
theorem dX6_isLane_23 : decode cX6_isLane 23 = .ok (.iconst 0, 1) := by decide +kernel
theorem dX6_isLane_24 : decode cX6_isLane 24 = .ok (.ireturn, 1) := by decide +kernel
theorem dX6_against_0 : decode cX6_against 0 = .ok (.aload_n 0, 1) := by decide +kernel
theorem dX6_against_1 : decode cX6_against 1 = .ok (.getfield 20, 3) := by decide +kernel
theorem dX6_against_4 : decode cX6_against 4 = .ok (.iload_n 1, 1) := by decide +kernel
theorem dX6_against_5 : decode cX6_against 5 = .ok (.iaload, 1) := by decide +kernel
theorem dX6_against_6 : decode cX6_against 6 = .ok (.ifCond .ge 6, 3) := by decide +kernel
theorem dX6_against_9 : decode cX6_against 9 = .ok (.bipush (-11), 2) := by decide +kernel
theorem dX6_against_11 : decode cX6_against 11 = .ok (.ireturn, 1) := by decide +kernel
theorem dX6_against_12 : decode cX6_against 12 = .ok (.aload_n 0, 1) := by decide +kernel
theorem dX6_against_13 : decode cX6_against 13 = .ok (.getfield 23, 3) := by decide +kernel
theorem dX6_against_16 : decode cX6_against 16 = .ok (.iload_n 1, 1) := by decide +kernel
theorem dX6_against_17 : decode cX6_against 17 = .ok (.iaload, 1) := by decide +kernel
theorem dX6_against_18 : decode cX6_against 18 = .ok (.iload_n 2, 1) := by decide +kernel
theorem dX6_against_19 : decode cX6_against 19 = .ok (.if_icmp .eq 6, 3) := by decide +kernel
theorem dX6_against_22 : decode cX6_against 22 = .ok (.bipush (-12), 2) := by decide +kernel
theorem dX6_against_24 : decode cX6_against 24 = .ok (.ireturn, 1) := by decide +kernel
theorem dX6_against_25 : decode cX6_against 25 = .ok (.iload_n 3, 1) := by decide +kernel
theorem dX6_against_26 : decode cX6_against 26 = .ok (.ifCond .lt 25, 3) := by decide +kernel
theorem dX6_against_29 : decode cX6_against 29 = .ok (.iload 4, 2) := by decide +kernel
theorem dX6_against_31 : decode cX6_against 31 = .ok (.ifCond .lt 20, 3) := by decide +kernel
theorem dX6_against_34 : decode cX6_against 34 = .ok (.iload_n 3, 1) := by decide +kernel
theorem dX6_against_35 : decode cX6_against 35 = .ok (.i2l, 1) := by decide +kernel
theorem dX6_against_36 : decode cX6_against 36 = .ok (.iload 4, 2) := by decide +kernel
theorem dX6_against_38 : decode cX6_against 38 = .ok (.i2l, 1) := by decide +kernel
theorem dX6_against_39 : decode cX6_against 39 = .ok (.ladd, 1) := by decide +kernel
theorem dX6_against_40 : decode cX6_against 40 = .ok (.aload_n 0, 1) := by decide +kernel
theorem dX6_against_41 : decode cX6_against 41 = .ok (.getfield 20, 3) := by decide +kernel
theorem dX6_against_44 : decode cX6_against 44 = .ok (.iload_n 1, 1) := by decide +kernel
theorem dX6_against_45 : decode cX6_against 45 = .ok (.iaload, 1) := by decide +kernel
theorem dX6_against_46 : decode cX6_against 46 = .ok (.i2l, 1) := by decide +kernel
theorem dX6_against_47 : decode cX6_against 47 = .ok (.lcmp, 1) := by decide +kernel
theorem dX6_against_48 : decode cX6_against 48 = .ok (.ifCond .le 8, 3) := by decide +kernel
theorem dX6_against_51 : decode cX6_against 51 = .ok (.bipush (-13), 2) := by decide +kernel
theorem dX6_against_53 : decode cX6_against 53 = .ok (.goto 4, 3) := by decide +kernel
theorem dX6_against_56 : decode cX6_against 56 = .ok (.iconst 0, 1) := by decide +kernel
theorem dX6_against_57 : decode cX6_against 57 = .ok (.ireturn, 1) := by decide +kernel
theorem dX6_lowest_0 : decode cX6_lowest 0 = .ok (.iload_n 0, 1) := by decide +kernel
theorem dX6_lowest_1 : decode cX6_lowest 1 = .ok (.ifCond .ne 10, 3) := by decide +kernel
theorem dX6_lowest_4 : decode cX6_lowest 4 = .ok (.lload_n 1, 1) := by decide +kernel
theorem dX6_lowest_5 : decode cX6_lowest 5 = .ok (.l2i, 1) := by decide +kernel
theorem dX6_lowest_6 : decode cX6_lowest 6 = .ok (.i2b, 1) := by decide +kernel
theorem dX6_lowest_7 : decode cX6_lowest 7 = .ok (.i2l, 1) := by decide +kernel
theorem dX6_lowest_8 : decode cX6_lowest 8 = .ok (.goto 27, 3) := by decide +kernel
theorem dX6_lowest_11 : decode cX6_lowest 11 = .ok (.iload_n 0, 1) := by decide +kernel
theorem dX6_lowest_12 : decode cX6_lowest 12 = .ok (.iconst 1, 1) := by decide +kernel
theorem dX6_lowest_13 : decode cX6_lowest 13 = .ok (.if_icmp .ne 10, 3) := by decide +kernel
theorem dX6_lowest_16 : decode cX6_lowest 16 = .ok (.lload_n 1, 1) := by decide +kernel
theorem dX6_lowest_17 : decode cX6_lowest 17 = .ok (.l2i, 1) := by decide +kernel
theorem dX6_lowest_18 : decode cX6_lowest 18 = .ok (.i2s, 1) := by decide +kernel
theorem dX6_lowest_19 : decode cX6_lowest 19 = .ok (.i2l, 1) := by decide +kernel
theorem dX6_lowest_20 : decode cX6_lowest 20 = .ok (.goto 15, 3) := by decide +kernel
theorem dX6_lowest_23 : decode cX6_lowest 23 = .ok (.iload_n 0, 1) := by decide +kernel
theorem dX6_lowest_24 : decode cX6_lowest 24 = .ok (.iconst 2, 1) := by decide +kernel
theorem dX6_lowest_25 : decode cX6_lowest 25 = .ok (.if_icmp .ne 9, 3) := by decide +kernel
theorem dX6_lowest_28 : decode cX6_lowest 28 = .ok (.lload_n 1, 1) := by decide +kernel
theorem dX6_lowest_29 : decode cX6_lowest 29 = .ok (.l2i, 1) := by decide +kernel
theorem dX6_lowest_30 : decode cX6_lowest 30 = .ok (.i2l, 1) := by decide +kernel
theorem dX6_lowest_31 : decode cX6_lowest 31 = .ok (.goto 4, 3) := by decide +kernel
theorem dX6_lowest_34 : decode cX6_lowest 34 = .ok (.lload_n 1, 1) := by decide +kernel
theorem dX6_lowest_35 : decode cX6_lowest 35 = .ok (.lreturn, 1) := by decide +kernel
theorem dX6_counts_0 : decode cX6_counts 0 = .ok (.iload_n 1, 1) := by decide +kernel
theorem dX6_counts_1 : decode cX6_counts 1 = .ok (.invokestatic 74, 3) := by decide +kernel
theorem dX6_counts_4 : decode cX6_counts 4 = .ok (.ifCond .eq 37, 3) := by decide +kernel
theorem dX6_counts_7 : decode cX6_counts 7 = .ok (.iload_n 2, 1) := by decide +kernel
theorem dX6_counts_8 : decode cX6_counts 8 = .ok (.iload_n 3, 1) := by decide +kernel
theorem dX6_counts_9 : decode cX6_counts 9 = .ok (.invokestatic 208, 3) := by decide +kernel
theorem dX6_counts_12 : decode cX6_counts 12 = .ok (.ifCond .eq 29, 3) := by decide +kernel
theorem dX6_counts_15 : decode cX6_counts 15 = .ok (.iload 5, 2) := by decide +kernel
theorem dX6_counts_17 : decode cX6_counts 17 = .ok (.i2l, 1) := by decide +kernel
theorem dX6_counts_18 : decode cX6_counts 18 = .ok (.lconst 1, 1) := by decide +kernel
theorem dX6_counts_19 : decode cX6_counts 19 = .ok (.ldc2_w 197, 3) := by decide +kernel
theorem dX6_counts_22 : decode cX6_counts 22 = .ok (.invokestatic 52, 3) := by decide +kernel
theorem dX6_counts_25 : decode cX6_counts 25 = .ok (.ifCond .eq 16, 3) := by decide +kernel
theorem dX6_counts_28 : decode cX6_counts 28 = .ok (.iload 6, 2) := by decide +kernel
theorem dX6_counts_30 : decode cX6_counts 30 = .ok (.i2l, 1) := by decide +kernel
theorem dX6_counts_31 : decode cX6_counts 31 = .ok (.lconst 0, 1) := by decide +kernel
theorem dX6_counts_32 : decode cX6_counts 32 = .ok (.ldc2_w 211, 3) := by decide +kernel
theorem dX6_counts_35 : decode cX6_counts 35 = .ok (.invokestatic 52, 3) := by decide +kernel
theorem dX6_counts_38 : decode cX6_counts 38 = .ok (.ifCond .ne 5, 3) := by decide +kernel
theorem dX6_counts_41 : decode cX6_counts 41 = .ok (.iconst (-1), 1) := by decide +kernel
theorem dX6_counts_42 : decode cX6_counts 42 = .ok (.ireturn, 1) := by decide +kernel
theorem dX6_counts_43 : decode cX6_counts 43 = .ok (.aload_n 0, 1) := by decide +kernel
theorem dX6_counts_44 : decode cX6_counts 44 = .ok (.iload_n 2, 1) := by decide +kernel
theorem dX6_counts_45 : decode cX6_counts 45 = .ok (.iload_n 3, 1) := by decide +kernel
theorem dX6_counts_46 : decode cX6_counts 46 = .ok (.iload 4, 2) := by decide +kernel
theorem dX6_counts_48 : decode cX6_counts 48 = .ok (.iload 5, 2) := by decide +kernel
theorem dX6_counts_50 : decode cX6_counts 50 = .ok (.invokevirtual 213, 3) := by decide +kernel
theorem dX6_counts_53 : decode cX6_counts 53 = .ok (.istore 7, 2) := by decide +kernel
theorem dX6_counts_55 : decode cX6_counts 55 = .ok (.iload 7, 2) := by decide +kernel
theorem dX6_counts_57 : decode cX6_counts 57 = .ok (.ifCond .ge 6, 3) := by decide +kernel
theorem dX6_counts_60 : decode cX6_counts 60 = .ok (.iload 7, 2) := by decide +kernel
theorem dX6_counts_62 : decode cX6_counts 62 = .ok (.ireturn, 1) := by decide +kernel
theorem dX6_counts_63 : decode cX6_counts 63 = .ok (.iconst 0, 1) := by decide +kernel
theorem dX6_counts_64 : decode cX6_counts 64 = .ok (.istore 8, 2) := by decide +kernel
theorem dX6_counts_66 : decode cX6_counts 66 = .ok (.ldc 182, 2) := by decide +kernel
theorem dX6_counts_68 : decode cX6_counts 68 = .ok (.istore 9, 2) := by decide +kernel
theorem dX6_counts_70 : decode cX6_counts 70 = .ok (.bipush (-4), 2) := by decide +kernel
theorem dX6_counts_72 : decode cX6_counts 72 = .ok (.istore 10, 2) := by decide +kernel
theorem dX6_counts_74 : decode cX6_counts 74 = .ok (.iconst 0, 1) := by decide +kernel
theorem dX6_counts_75 : decode cX6_counts 75 = .ok (.istore 11, 2) := by decide +kernel
theorem dX6_counts_77 : decode cX6_counts 77 = .ok (.iload 11, 2) := by decide +kernel
theorem dX6_counts_79 : decode cX6_counts 79 = .ok (.sipush 256, 3) := by decide +kernel
theorem dX6_counts_82 : decode cX6_counts 82 = .ok (.if_icmp .ge 141, 3) := by decide +kernel
theorem dX6_counts_85 : decode cX6_counts 85 = .ok (.iconst 1, 1) := by decide +kernel
theorem dX6_counts_86 : decode cX6_counts 86 = .ok (.istore 12, 2) := by decide +kernel
theorem dX6_counts_88 : decode cX6_counts 88 = .ok (.iconst 0, 1) := by decide +kernel
theorem dX6_counts_89 : decode cX6_counts 89 = .ok (.istore 13, 2) := by decide +kernel
theorem dX6_counts_91 : decode cX6_counts 91 = .ok (.iload 13, 2) := by decide +kernel
theorem dX6_counts_93 : decode cX6_counts 93 = .ok (.iload 5, 2) := by decide +kernel
theorem dX6_counts_95 : decode cX6_counts 95 = .ok (.if_icmp .ge 53, 3) := by decide +kernel
theorem dX6_counts_98 : decode cX6_counts 98 = .ok (.iload 12, 2) := by decide +kernel
theorem dX6_counts_100 : decode cX6_counts 100 = .ok (.ifCond .eq 48, 3) := by decide +kernel
theorem dX6_counts_103 : decode cX6_counts 103 = .ok (.iload 11, 2) := by decide +kernel
theorem dX6_counts_105 : decode cX6_counts 105 = .ok (.iload_n 1, 1) := by decide +kernel
theorem dX6_counts_106 : decode cX6_counts 106 = .ok (.iload 13, 2) := by decide +kernel
theorem dX6_counts_108 : decode cX6_counts 108 = .ok (.iadd, 1) := by decide +kernel
theorem dX6_counts_109 : decode cX6_counts 109 = .ok (.bipush 8, 2) := by decide +kernel
theorem dX6_counts_111 : decode cX6_counts 111 = .ok (.irem, 1) := by decide +kernel
theorem dX6_counts_112 : decode cX6_counts 112 = .ok (.invokestatic 103, 3) := by decide +kernel
theorem dX6_counts_115 : decode cX6_counts 115 = .ok (.i2l, 1) := by decide +kernel
theorem dX6_counts_116 : decode cX6_counts 116 = .ok (.aload_n 0, 1) := by decide +kernel
theorem dX6_counts_117 : decode cX6_counts 117 = .ok (.getfield 16, 3) := by decide +kernel
theorem dX6_counts_120 : decode cX6_counts 120 = .ok (.bipush 24, 2) := by decide +kernel
theorem dX6_counts_122 : decode cX6_counts 122 = .ok (.iload_n 2, 1) := by decide +kernel
theorem dX6_counts_123 : decode cX6_counts 123 = .ok (.imul, 1) := by decide +kernel
theorem dX6_counts_124 : decode cX6_counts 124 = .ok (.iload 4, 2) := by decide +kernel
theorem dX6_counts_126 : decode cX6_counts 126 = .ok (.iadd, 1) := by decide +kernel
theorem dX6_counts_127 : decode cX6_counts 127 = .ok (.iload 13, 2) := by decide +kernel
theorem dX6_counts_129 : decode cX6_counts 129 = .ok (.iadd, 1) := by decide +kernel
theorem dX6_counts_130 : decode cX6_counts 130 = .ok (.laload, 1) := by decide +kernel
theorem dX6_counts_131 : decode cX6_counts 131 = .ok (.lcmp, 1) := by decide +kernel
theorem dX6_counts_132 : decode cX6_counts 132 = .ok (.ifCond .ne 7, 3) := by decide +kernel
theorem dX6_counts_135 : decode cX6_counts 135 = .ok (.iconst 1, 1) := by decide +kernel
theorem dX6_counts_136 : decode cX6_counts 136 = .ok (.goto 4, 3) := by decide +kernel
theorem dX6_counts_139 : decode cX6_counts 139 = .ok (.iconst 0, 1) := by decide +kernel
theorem dX6_counts_140 : decode cX6_counts 140 = .ok (.istore 12, 2) := by decide +kernel
theorem dX6_counts_142 : decode cX6_counts 142 = .ok (.iinc 13 1, 3) := by decide +kernel
theorem dX6_counts_145 : decode cX6_counts 145 = .ok (.goto (-54), 3) := by decide +kernel
theorem dX6_counts_148 : decode cX6_counts 148 = .ok (.iload 8, 2) := by decide +kernel
theorem dX6_counts_150 : decode cX6_counts 150 = .ok (.iload 12, 2) := by decide +kernel
theorem dX6_counts_152 : decode cX6_counts 152 = .ok (.ifCond .eq 7, 3) := by decide +kernel
theorem dX6_counts_155 : decode cX6_counts 155 = .ok (.iconst 1, 1) := by decide +kernel
theorem dX6_counts_156 : decode cX6_counts 156 = .ok (.goto 4, 3) := by decide +kernel
theorem dX6_counts_159 : decode cX6_counts 159 = .ok (.iconst 0, 1) := by decide +kernel
theorem dX6_counts_160 : decode cX6_counts 160 = .ok (.iadd, 1) := by decide +kernel
theorem dX6_counts_161 : decode cX6_counts 161 = .ok (.istore 8, 2) := by decide +kernel
theorem dX6_counts_163 : decode cX6_counts 163 = .ok (.iload 12, 2) := by decide +kernel
theorem dX6_counts_165 : decode cX6_counts 165 = .ok (.ifCond .eq 21, 3) := by decide +kernel
theorem dX6_counts_168 : decode cX6_counts 168 = .ok (.iload 11, 2) := by decide +kernel
theorem dX6_counts_170 : decode cX6_counts 170 = .ok (.invokestatic 158, 3) := by decide +kernel
theorem dX6_counts_173 : decode cX6_counts 173 = .ok (.iload 9, 2) := by decide +kernel
theorem dX6_counts_175 : decode cX6_counts 175 = .ok (.if_icmp .ge 11, 3) := by decide +kernel
theorem dX6_counts_178 : decode cX6_counts 178 = .ok (.iload 11, 2) := by decide +kernel
theorem dX6_counts_180 : decode cX6_counts 180 = .ok (.invokestatic 158, 3) := by decide +kernel
theorem dX6_counts_183 : decode cX6_counts 183 = .ok (.goto 5, 3) := by decide +kernel
theorem dX6_counts_186 : decode cX6_counts 186 = .ok (.iload 9, 2) := by decide +kernel
theorem dX6_counts_188 : decode cX6_counts 188 = .ok (.istore 9, 2) := by decide +kernel
theorem dX6_counts_190 : decode cX6_counts 190 = .ok (.iload 12, 2) := by decide +kernel
theorem dX6_counts_192 : decode cX6_counts 192 = .ok (.ifCond .eq 21, 3) := by decide +kernel
theorem dX6_counts_195 : decode cX6_counts 195 = .ok (.iload 11, 2) := by decide +kernel
theorem dX6_counts_197 : decode cX6_counts 197 = .ok (.invokestatic 158, 3) := by decide +kernel
theorem dX6_counts_200 : decode cX6_counts 200 = .ok (.iload 10, 2) := by decide +kernel
theorem dX6_counts_202 : decode cX6_counts 202 = .ok (.if_icmp .le 11, 3) := by decide +kernel
theorem dX6_counts_205 : decode cX6_counts 205 = .ok (.iload 11, 2) := by decide +kernel
theorem dX6_counts_207 : decode cX6_counts 207 = .ok (.invokestatic 158, 3) := by decide +kernel
theorem dX6_counts_210 : decode cX6_counts 210 = .ok (.goto 5, 3) := by decide +kernel
theorem dX6_counts_213 : decode cX6_counts 213 = .ok (.iload 10, 2) := by decide +kernel
theorem dX6_counts_215 : decode cX6_counts 215 = .ok (.istore 10, 2) := by decide +kernel
theorem dX6_counts_217 : decode cX6_counts 217 = .ok (.iinc 11 1, 3) := by decide +kernel
theorem dX6_counts_220 : decode cX6_counts 220 = .ok (.goto (-143), 3) := by decide +kernel
theorem dX6_counts_223 : decode cX6_counts 223 = .ok (.iload 6, 2) := by decide +kernel
theorem dX6_counts_225 : decode cX6_counts 225 = .ok (.ifCond .ne 8, 3) := by decide +kernel
theorem dX6_counts_228 : decode cX6_counts 228 = .ok (.iload 8, 2) := by decide +kernel
theorem dX6_counts_230 : decode cX6_counts 230 = .ok (.goto 26, 3) := by decide +kernel
theorem dX6_counts_233 : decode cX6_counts 233 = .ok (.iload 8, 2) := by decide +kernel
theorem dX6_counts_235 : decode cX6_counts 235 = .ok (.ifCond .ne 8, 3) := by decide +kernel
theorem dX6_counts_238 : decode cX6_counts 238 = .ok (.bipush (-4), 2) := by decide +kernel
theorem dX6_counts_240 : decode cX6_counts 240 = .ok (.goto 16, 3) := by decide +kernel
theorem dX6_counts_243 : decode cX6_counts 243 = .ok (.iload 6, 2) := by decide +kernel
theorem dX6_counts_245 : decode cX6_counts 245 = .ok (.iconst 1, 1) := by decide +kernel
theorem dX6_counts_246 : decode cX6_counts 246 = .ok (.if_icmp .ne 8, 3) := by decide +kernel
theorem dX6_counts_249 : decode cX6_counts 249 = .ok (.iload 9, 2) := by decide +kernel
theorem dX6_counts_251 : decode cX6_counts 251 = .ok (.goto 5, 3) := by decide +kernel
theorem dX6_counts_254 : decode cX6_counts 254 = .ok (.iload 10, 2) := by decide +kernel
theorem dX6_counts_256 : decode cX6_counts 256 = .ok (.ireturn, 1) := by decide +kernel
theorem dX6_steps_0 : decode cX6_steps 0 = .ok (.aload_n 0, 1) := by decide +kernel
theorem dX6_steps_1 : decode cX6_steps 1 = .ok (.iload_n 1, 1) := by decide +kernel
theorem dX6_steps_2 : decode cX6_steps 2 = .ok (.invokevirtual 100, 3) := by decide +kernel
theorem dX6_steps_5 : decode cX6_steps 5 = .ok (.ifCond .eq 44, 3) := by decide +kernel
theorem dX6_steps_8 : decode cX6_steps 8 = .ok (.aload_n 0, 1) := by decide +kernel
theorem dX6_steps_9 : decode cX6_steps 9 = .ok (.iload_n 2, 1) := by decide +kernel
theorem dX6_steps_10 : decode cX6_steps 10 = .ok (.invokevirtual 87, 3) := by decide +kernel
theorem dX6_steps_13 : decode cX6_steps 13 = .ok (.ifCond .eq 36, 3) := by decide +kernel
theorem dX6_steps_16 : decode cX6_steps 16 = .ok (.iload_n 3, 1) := by decide +kernel
theorem dX6_steps_17 : decode cX6_steps 17 = .ok (.iload 4, 2) := by decide +kernel
theorem dX6_steps_19 : decode cX6_steps 19 = .ok (.invokestatic 208, 3) := by decide +kernel
theorem dX6_steps_22 : decode cX6_steps 22 = .ok (.ifCond .eq 27, 3) := by decide +kernel
theorem dX6_steps_25 : decode cX6_steps 25 = .ok (.iload 6, 2) := by decide +kernel
theorem dX6_steps_27 : decode cX6_steps 27 = .ok (.i2l, 1) := by decide +kernel
theorem dX6_steps_28 : decode cX6_steps 28 = .ok (.lconst 1, 1) := by decide +kernel
theorem dX6_steps_29 : decode cX6_steps 29 = .ok (.ldc2_w 197, 3) := by decide +kernel
theorem dX6_steps_32 : decode cX6_steps 32 = .ok (.invokestatic 52, 3) := by decide +kernel
theorem dX6_steps_35 : decode cX6_steps 35 = .ok (.ifCond .eq 14, 3) := by decide +kernel
theorem dX6_steps_38 : decode cX6_steps 38 = .ok (.iload 7, 2) := by decide +kernel
theorem dX6_steps_40 : decode cX6_steps 40 = .ok (.i2l, 1) := by decide +kernel
theorem dX6_steps_41 : decode cX6_steps 41 = .ok (.lconst 0, 1) := by decide +kernel
theorem dX6_steps_42 : decode cX6_steps 42 = .ok (.lconst 1, 1) := by decide +kernel
theorem dX6_steps_43 : decode cX6_steps 43 = .ok (.invokestatic 52, 3) := by decide +kernel
theorem dX6_steps_46 : decode cX6_steps 46 = .ok (.ifCond .ne 5, 3) := by decide +kernel
theorem dX6_steps_49 : decode cX6_steps 49 = .ok (.iconst (-1), 1) := by decide +kernel
theorem dX6_steps_50 : decode cX6_steps 50 = .ok (.ireturn, 1) := by decide +kernel
theorem dX6_steps_51 : decode cX6_steps 51 = .ok (.aload_n 0, 1) := by decide +kernel
theorem dX6_steps_52 : decode cX6_steps 52 = .ok (.iload_n 3, 1) := by decide +kernel
theorem dX6_steps_53 : decode cX6_steps 53 = .ok (.iload 4, 2) := by decide +kernel
theorem dX6_steps_55 : decode cX6_steps 55 = .ok (.iload 5, 2) := by decide +kernel
theorem dX6_steps_57 : decode cX6_steps 57 = .ok (.iload 6, 2) := by decide +kernel
theorem dX6_steps_59 : decode cX6_steps 59 = .ok (.invokevirtual 213, 3) := by decide +kernel
theorem dX6_steps_62 : decode cX6_steps 62 = .ok (.istore 8, 2) := by decide +kernel
theorem dX6_steps_64 : decode cX6_steps 64 = .ok (.iload 8, 2) := by decide +kernel
theorem dX6_steps_66 : decode cX6_steps 66 = .ok (.ifCond .ge 6, 3) := by decide +kernel
theorem dX6_steps_69 : decode cX6_steps 69 = .ok (.iload 8, 2) := by decide +kernel
theorem dX6_steps_71 : decode cX6_steps 71 = .ok (.ireturn, 1) := by decide +kernel
theorem dX6_steps_72 : decode cX6_steps 72 = .ok (.aload_n 0, 1) := by decide +kernel
theorem dX6_steps_73 : decode cX6_steps 73 = .ok (.getfield 7, 3) := by decide +kernel
theorem dX6_steps_76 : decode cX6_steps 76 = .ok (.iconst 5, 1) := by decide +kernel
theorem dX6_steps_77 : decode cX6_steps 77 = .ok (.iload_n 1, 1) := by decide +kernel
theorem dX6_steps_78 : decode cX6_steps 78 = .ok (.iadd, 1) := by decide +kernel
theorem dX6_steps_79 : decode cX6_steps 79 = .ok (.iaload, 1) := by decide +kernel
theorem dX6_steps_80 : decode cX6_steps 80 = .ok (.bipush (-4), 2) := by decide +kernel
theorem dX6_steps_82 : decode cX6_steps 82 = .ok (.if_icmp .ne 6, 3) := by decide +kernel
theorem dX6_steps_85 : decode cX6_steps 85 = .ok (.bipush (-2), 2) := by decide +kernel
theorem dX6_steps_87 : decode cX6_steps 87 = .ok (.ireturn, 1) := by decide +kernel
theorem dX6_steps_88 : decode cX6_steps 88 = .ok (.iload 7, 2) := by decide +kernel
theorem dX6_steps_90 : decode cX6_steps 90 = .ok (.ifCond .ne 10, 3) := by decide +kernel
theorem dX6_steps_93 : decode cX6_steps 93 = .ok (.bipush 13, 2) := by decide +kernel
theorem dX6_steps_95 : decode cX6_steps 95 = .ok (.iload_n 2, 1) := by decide +kernel
theorem dX6_steps_96 : decode cX6_steps 96 = .ok (.iadd, 1) := by decide +kernel
theorem dX6_steps_97 : decode cX6_steps 97 = .ok (.goto 7, 3) := by decide +kernel
theorem dX6_steps_100 : decode cX6_steps 100 = .ok (.bipush 18, 2) := by decide +kernel
theorem dX6_steps_102 : decode cX6_steps 102 = .ok (.iload_n 2, 1) := by decide +kernel
theorem dX6_steps_103 : decode cX6_steps 103 = .ok (.iadd, 1) := by decide +kernel
theorem dX6_steps_104 : decode cX6_steps 104 = .ok (.istore 9, 2) := by decide +kernel
theorem dX6_steps_106 : decode cX6_steps 106 = .ok (.aload_n 0, 1) := by decide +kernel
theorem dX6_steps_107 : decode cX6_steps 107 = .ok (.getfield 7, 3) := by decide +kernel
theorem dX6_steps_110 : decode cX6_steps 110 = .ok (.iload 9, 2) := by decide +kernel
theorem dX6_steps_112 : decode cX6_steps 112 = .ok (.iaload, 1) := by decide +kernel
theorem dX6_steps_113 : decode cX6_steps 113 = .ok (.istore 10, 2) := by decide +kernel
theorem dX6_steps_115 : decode cX6_steps 115 = .ok (.iconst 0, 1) := by decide +kernel
theorem dX6_steps_116 : decode cX6_steps 116 = .ok (.istore 11, 2) := by decide +kernel
theorem dX6_steps_118 : decode cX6_steps 118 = .ok (.iconst 0, 1) := by decide +kernel
theorem dX6_steps_119 : decode cX6_steps 119 = .ok (.istore 12, 2) := by decide +kernel
theorem dX6_steps_121 : decode cX6_steps 121 = .ok (.iload 12, 2) := by decide +kernel
theorem dX6_steps_123 : decode cX6_steps 123 = .ok (.iload 7, 2) := by decide +kernel
theorem dX6_steps_125 : decode cX6_steps 125 = .ok (.ifCond .ne 7, 3) := by decide +kernel
theorem dX6_steps_128 : decode cX6_steps 128 = .ok (.iconst 4, 1) := by decide +kernel
theorem dX6_steps_129 : decode cX6_steps 129 = .ok (.goto 5, 3) := by decide +kernel
theorem dX6_steps_132 : decode cX6_steps 132 = .ok (.bipush 7, 2) := by decide +kernel
theorem dX6_steps_134 : decode cX6_steps 134 = .ok (.if_icmp .gt 145, 3) := by decide +kernel
theorem dX6_steps_137 : decode cX6_steps 137 = .ok (.aload_n 0, 1) := by decide +kernel
theorem dX6_steps_138 : decode cX6_steps 138 = .ok (.getfield 7, 3) := by decide +kernel
theorem dX6_steps_141 : decode cX6_steps 141 = .ok (.iload 9, 2) := by decide +kernel
theorem dX6_steps_143 : decode cX6_steps 143 = .ok (.iload 12, 2) := by decide +kernel
theorem dX6_steps_145 : decode cX6_steps 145 = .ok (.iastore, 1) := by decide +kernel
theorem dX6_steps_146 : decode cX6_steps 146 = .ok (.iconst 1, 1) := by decide +kernel
theorem dX6_steps_147 : decode cX6_steps 147 = .ok (.istore 13, 2) := by decide +kernel
theorem dX6_steps_149 : decode cX6_steps 149 = .ok (.aload_n 0, 1) := by decide +kernel
theorem dX6_steps_150 : decode cX6_steps 150 = .ok (.getfield 7, 3) := by decide +kernel
theorem dX6_steps_153 : decode cX6_steps 153 = .ok (.iconst 5, 1) := by decide +kernel
theorem dX6_steps_154 : decode cX6_steps 154 = .ok (.iload_n 1, 1) := by decide +kernel
theorem dX6_steps_155 : decode cX6_steps 155 = .ok (.iadd, 1) := by decide +kernel
theorem dX6_steps_156 : decode cX6_steps 156 = .ok (.iaload, 1) := by decide +kernel
theorem dX6_steps_157 : decode cX6_steps 157 = .ok (.istore 14, 2) := by decide +kernel
theorem dX6_steps_159 : decode cX6_steps 159 = .ok (.iconst 0, 1) := by decide +kernel
theorem dX6_steps_160 : decode cX6_steps 160 = .ok (.istore 15, 2) := by decide +kernel
theorem dX6_steps_162 : decode cX6_steps 162 = .ok (.iload 15, 2) := by decide +kernel
theorem dX6_steps_164 : decode cX6_steps 164 = .ok (.iload 6, 2) := by decide +kernel
theorem dX6_steps_166 : decode cX6_steps 166 = .ok (.if_icmp .ge 89, 3) := by decide +kernel
theorem dX6_steps_169 : decode cX6_steps 169 = .ok (.iload 13, 2) := by decide +kernel
theorem dX6_steps_171 : decode cX6_steps 171 = .ok (.ifCond .eq 84, 3) := by decide +kernel
theorem dX6_steps_174 : decode cX6_steps 174 = .ok (.aload_n 0, 1) := by decide +kernel
theorem dX6_steps_175 : decode cX6_steps 175 = .ok (.getfield 7, 3) := by decide +kernel
theorem dX6_steps_178 : decode cX6_steps 178 = .ok (.iconst 2, 1) := by decide +kernel
theorem dX6_steps_179 : decode cX6_steps 179 = .ok (.iaload, 1) := by decide +kernel
theorem dX6_steps_180 : decode cX6_steps 180 = .ok (.ifCond .ne 8, 3) := by decide +kernel
theorem dX6_steps_183 : decode cX6_steps 183 = .ok (.iload 14, 2) := by decide +kernel
theorem dX6_steps_185 : decode cX6_steps 185 = .ok (.goto 33, 3) := by decide +kernel
theorem dX6_steps_188 : decode cX6_steps 188 = .ok (.aload_n 0, 1) := by decide +kernel
theorem dX6_steps_189 : decode cX6_steps 189 = .ok (.aload_n 0, 1) := by decide +kernel
theorem dX6_steps_190 : decode cX6_steps 190 = .ok (.getfield 7, 3) := by decide +kernel
theorem dX6_steps_193 : decode cX6_steps 193 = .ok (.bipush 23, 2) := by decide +kernel
theorem dX6_steps_195 : decode cX6_steps 195 = .ok (.aload_n 0, 1) := by decide +kernel
theorem dX6_steps_196 : decode cX6_steps 196 = .ok (.getfield 7, 3) := by decide +kernel
theorem dX6_steps_199 : decode cX6_steps 199 = .ok (.iconst 3, 1) := by decide +kernel
theorem dX6_steps_200 : decode cX6_steps 200 = .ok (.iaload, 1) := by decide +kernel
theorem dX6_steps_201 : decode cX6_steps 201 = .ok (.iload 15, 2) := by decide +kernel
theorem dX6_steps_203 : decode cX6_steps 203 = .ok (.iadd, 1) := by decide +kernel
theorem dX6_steps_204 : decode cX6_steps 204 = .ok (.aload_n 0, 1) := by decide +kernel
theorem dX6_steps_205 : decode cX6_steps 205 = .ok (.getfield 7, 3) := by decide +kernel
theorem dX6_steps_208 : decode cX6_steps 208 = .ok (.iconst 2, 1) := by decide +kernel
theorem dX6_steps_209 : decode cX6_steps 209 = .ok (.iaload, 1) := by decide +kernel
theorem dX6_steps_210 : decode cX6_steps 210 = .ok (.irem, 1) := by decide +kernel
theorem dX6_steps_211 : decode cX6_steps 211 = .ok (.iadd, 1) := by decide +kernel
theorem dX6_steps_212 : decode cX6_steps 212 = .ok (.iaload, 1) := by decide +kernel
theorem dX6_steps_213 : decode cX6_steps 213 = .ok (.iload 14, 2) := by decide +kernel
theorem dX6_steps_215 : decode cX6_steps 215 = .ok (.invokevirtual 67, 3) := by decide +kernel
theorem dX6_steps_218 : decode cX6_steps 218 = .ok (.istore 14, 2) := by decide +kernel
theorem dX6_steps_220 : decode cX6_steps 220 = .ok (.iload 14, 2) := by decide +kernel
theorem dX6_steps_222 : decode cX6_steps 222 = .ok (.i2l, 1) := by decide +kernel
theorem dX6_steps_223 : decode cX6_steps 223 = .ok (.aload_n 0, 1) := by decide +kernel
theorem dX6_steps_224 : decode cX6_steps 224 = .ok (.getfield 16, 3) := by decide +kernel
theorem dX6_steps_227 : decode cX6_steps 227 = .ok (.bipush 24, 2) := by decide +kernel
theorem dX6_steps_229 : decode cX6_steps 229 = .ok (.iload_n 3, 1) := by decide +kernel
theorem dX6_steps_230 : decode cX6_steps 230 = .ok (.imul, 1) := by decide +kernel
theorem dX6_steps_231 : decode cX6_steps 231 = .ok (.iload 5, 2) := by decide +kernel
theorem dX6_steps_233 : decode cX6_steps 233 = .ok (.iadd, 1) := by decide +kernel
theorem dX6_steps_234 : decode cX6_steps 234 = .ok (.iload 15, 2) := by decide +kernel
theorem dX6_steps_236 : decode cX6_steps 236 = .ok (.iadd, 1) := by decide +kernel
theorem dX6_steps_237 : decode cX6_steps 237 = .ok (.laload, 1) := by decide +kernel
theorem dX6_steps_238 : decode cX6_steps 238 = .ok (.lcmp, 1) := by decide +kernel
theorem dX6_steps_239 : decode cX6_steps 239 = .ok (.ifCond .ne 7, 3) := by decide +kernel
theorem dX6_steps_242 : decode cX6_steps 242 = .ok (.iconst 1, 1) := by decide +kernel
theorem dX6_steps_243 : decode cX6_steps 243 = .ok (.goto 4, 3) := by decide +kernel
theorem dX6_steps_246 : decode cX6_steps 246 = .ok (.iconst 0, 1) := by decide +kernel
theorem dX6_steps_247 : decode cX6_steps 247 = .ok (.istore 13, 2) := by decide +kernel
theorem dX6_steps_249 : decode cX6_steps 249 = .ok (.iinc 15 1, 3) := by decide +kernel
theorem dX6_steps_252 : decode cX6_steps 252 = .ok (.goto (-90), 3) := by decide +kernel
theorem dX6_steps_255 : decode cX6_steps 255 = .ok (.iload 11, 2) := by decide +kernel
theorem dX6_steps_257 : decode cX6_steps 257 = .ok (.iload 13, 2) := by decide +kernel
theorem dX6_steps_259 : decode cX6_steps 259 = .ok (.ifCond .eq 10, 3) := by decide +kernel
theorem dX6_steps_262 : decode cX6_steps 262 = .ok (.iconst 1, 1) := by decide +kernel
theorem dX6_steps_263 : decode cX6_steps 263 = .ok (.iload 12, 2) := by decide +kernel
theorem dX6_steps_265 : decode cX6_steps 265 = .ok (.ishl, 1) := by decide +kernel
theorem dX6_steps_266 : decode cX6_steps 266 = .ok (.goto 4, 3) := by decide +kernel
theorem dX6_steps_269 : decode cX6_steps 269 = .ok (.iconst 0, 1) := by decide +kernel
theorem dX6_steps_270 : decode cX6_steps 270 = .ok (.ior, 1) := by decide +kernel
theorem dX6_steps_271 : decode cX6_steps 271 = .ok (.istore 11, 2) := by decide +kernel
theorem dX6_steps_273 : decode cX6_steps 273 = .ok (.iinc 12 1, 3) := by decide +kernel
theorem dX6_steps_276 : decode cX6_steps 276 = .ok (.goto (-155), 3) := by decide +kernel
theorem dX6_steps_279 : decode cX6_steps 279 = .ok (.aload_n 0, 1) := by decide +kernel
theorem dX6_steps_280 : decode cX6_steps 280 = .ok (.getfield 7, 3) := by decide +kernel
theorem dX6_steps_283 : decode cX6_steps 283 = .ok (.iload 9, 2) := by decide +kernel
theorem dX6_steps_285 : decode cX6_steps 285 = .ok (.iload 10, 2) := by decide +kernel
theorem dX6_steps_287 : decode cX6_steps 287 = .ok (.iastore, 1) := by decide +kernel
theorem dX6_steps_288 : decode cX6_steps 288 = .ok (.iload 11, 2) := by decide +kernel
theorem dX6_steps_290 : decode cX6_steps 290 = .ok (.ireturn, 1) := by decide +kernel
theorem dX6_film_0 : decode cX6_film 0 = .ok (.aload_n 0, 1) := by decide +kernel
theorem dX6_film_1 : decode cX6_film 1 = .ok (.iload_n 1, 1) := by decide +kernel
theorem dX6_film_2 : decode cX6_film 2 = .ok (.invokevirtual 100, 3) := by decide +kernel
theorem dX6_film_5 : decode cX6_film 5 = .ok (.ifCond .eq 24, 3) := by decide +kernel
theorem dX6_film_8 : decode cX6_film 8 = .ok (.iload_n 2, 1) := by decide +kernel
theorem dX6_film_9 : decode cX6_film 9 = .ok (.i2l, 1) := by decide +kernel
theorem dX6_film_10 : decode cX6_film 10 = .ok (.lconst 1, 1) := by decide +kernel
theorem dX6_film_11 : decode cX6_film 11 = .ok (.ldc2_w 217, 3) := by decide +kernel
theorem dX6_film_14 : decode cX6_film 14 = .ok (.invokestatic 52, 3) := by decide +kernel
theorem dX6_film_17 : decode cX6_film 17 = .ok (.ifCond .eq 12, 3) := by decide +kernel
theorem dX6_film_20 : decode cX6_film 20 = .ok (.iload_n 3, 1) := by decide +kernel
theorem dX6_film_21 : decode cX6_film 21 = .ok (.iload 4, 2) := by decide +kernel
theorem dX6_film_23 : decode cX6_film 23 = .ok (.invokestatic 208, 3) := by decide +kernel
theorem dX6_film_26 : decode cX6_film 26 = .ok (.ifCond .ne 5, 3) := by decide +kernel
theorem dX6_film_29 : decode cX6_film 29 = .ok (.iconst (-1), 1) := by decide +kernel
theorem dX6_film_30 : decode cX6_film 30 = .ok (.ireturn, 1) := by decide +kernel
theorem dX6_film_31 : decode cX6_film 31 = .ok (.aload_n 0, 1) := by decide +kernel
theorem dX6_film_32 : decode cX6_film 32 = .ok (.iload_n 3, 1) := by decide +kernel
theorem dX6_film_33 : decode cX6_film 33 = .ok (.iload 4, 2) := by decide +kernel
theorem dX6_film_35 : decode cX6_film 35 = .ok (.iload 5, 2) := by decide +kernel
theorem dX6_film_37 : decode cX6_film 37 = .ok (.iload_n 2, 1) := by decide +kernel
theorem dX6_film_38 : decode cX6_film 38 = .ok (.invokevirtual 213, 3) := by decide +kernel
theorem dX6_film_41 : decode cX6_film 41 = .ok (.istore 6, 2) := by decide +kernel
theorem dX6_film_43 : decode cX6_film 43 = .ok (.iload 6, 2) := by decide +kernel
theorem dX6_film_45 : decode cX6_film 45 = .ok (.ifCond .ge 6, 3) := by decide +kernel
theorem dX6_film_48 : decode cX6_film 48 = .ok (.iload 6, 2) := by decide +kernel
theorem dX6_film_50 : decode cX6_film 50 = .ok (.ireturn, 1) := by decide +kernel
theorem dX6_film_51 : decode cX6_film 51 = .ok (.iconst 0, 1) := by decide +kernel
theorem dX6_film_52 : decode cX6_film 52 = .ok (.istore 7, 2) := by decide +kernel
theorem dX6_film_54 : decode cX6_film 54 = .ok (.iload 7, 2) := by decide +kernel
theorem dX6_film_56 : decode cX6_film 56 = .ok (.iload_n 2, 1) := by decide +kernel
theorem dX6_film_57 : decode cX6_film 57 = .ok (.if_icmp .ge 41, 3) := by decide +kernel
theorem dX6_film_60 : decode cX6_film 60 = .ok (.aload_n 0, 1) := by decide +kernel
theorem dX6_film_61 : decode cX6_film 61 = .ok (.getfield 16, 3) := by decide +kernel
theorem dX6_film_64 : decode cX6_film 64 = .ok (.bipush 24, 2) := by decide +kernel
theorem dX6_film_66 : decode cX6_film 66 = .ok (.iload_n 3, 1) := by decide +kernel
theorem dX6_film_67 : decode cX6_film 67 = .ok (.imul, 1) := by decide +kernel
theorem dX6_film_68 : decode cX6_film 68 = .ok (.iload 5, 2) := by decide +kernel
theorem dX6_film_70 : decode cX6_film 70 = .ok (.iadd, 1) := by decide +kernel
theorem dX6_film_71 : decode cX6_film 71 = .ok (.iload 7, 2) := by decide +kernel
theorem dX6_film_73 : decode cX6_film 73 = .ok (.iadd, 1) := by decide +kernel
theorem dX6_film_74 : decode cX6_film 74 = .ok (.aload_n 0, 1) := by decide +kernel
theorem dX6_film_75 : decode cX6_film 75 = .ok (.aload_n 0, 1) := by decide +kernel
theorem dX6_film_76 : decode cX6_film 76 = .ok (.getfield 7, 3) := by decide +kernel
theorem dX6_film_79 : decode cX6_film 79 = .ok (.iconst 5, 1) := by decide +kernel
theorem dX6_film_80 : decode cX6_film 80 = .ok (.iload_n 1, 1) := by decide +kernel
theorem dX6_film_81 : decode cX6_film 81 = .ok (.iadd, 1) := by decide +kernel
theorem dX6_film_82 : decode cX6_film 82 = .ok (.iaload, 1) := by decide +kernel
theorem dX6_film_83 : decode cX6_film 83 = .ok (.iload 7, 2) := by decide +kernel
theorem dX6_film_85 : decode cX6_film 85 = .ok (.iconst 1, 1) := by decide +kernel
theorem dX6_film_86 : decode cX6_film 86 = .ok (.iadd, 1) := by decide +kernel
theorem dX6_film_87 : decode cX6_film 87 = .ok (.invokevirtual 179, 3) := by decide +kernel
theorem dX6_film_90 : decode cX6_film 90 = .ok (.i2l, 1) := by decide +kernel
theorem dX6_film_91 : decode cX6_film 91 = .ok (.lastore, 1) := by decide +kernel
theorem dX6_film_92 : decode cX6_film 92 = .ok (.iinc 7 1, 3) := by decide +kernel
theorem dX6_film_95 : decode cX6_film 95 = .ok (.goto (-41), 3) := by decide +kernel
theorem dX6_film_98 : decode cX6_film 98 = .ok (.iload_n 2, 1) := by decide +kernel
theorem dX6_film_99 : decode cX6_film 99 = .ok (.ireturn, 1) := by decide +kernel
theorem dX6_sheet_0 : decode cX6_sheet 0 = .ok (.iload_n 1, 1) := by decide +kernel
theorem dX6_sheet_1 : decode cX6_sheet 1 = .ok (.iload_n 2, 1) := by decide +kernel
theorem dX6_sheet_2 : decode cX6_sheet 2 = .ok (.invokestatic 208, 3) := by decide +kernel
theorem dX6_sheet_5 : decode cX6_sheet 5 = .ok (.ifCond .eq 9, 3) := by decide +kernel
theorem dX6_sheet_8 : decode cX6_sheet 8 = .ok (.iload_n 3, 1) := by decide +kernel
theorem dX6_sheet_9 : decode cX6_sheet 9 = .ok (.bipush 24, 2) := by decide +kernel
theorem dX6_sheet_11 : decode cX6_sheet 11 = .ok (.if_icmp .le 5, 3) := by decide +kernel
theorem dX6_sheet_14 : decode cX6_sheet 14 = .ok (.iconst (-1), 1) := by decide +kernel
theorem dX6_sheet_15 : decode cX6_sheet 15 = .ok (.ireturn, 1) := by decide +kernel
theorem dX6_sheet_16 : decode cX6_sheet 16 = .ok (.iload_n 3, 1) := by decide +kernel
theorem dX6_sheet_17 : decode cX6_sheet 17 = .ok (.ifCond .ge 6, 3) := by decide +kernel
theorem dX6_sheet_20 : decode cX6_sheet 20 = .ok (.bipush (-14), 2) := by decide +kernel
theorem dX6_sheet_22 : decode cX6_sheet 22 = .ok (.ireturn, 1) := by decide +kernel
theorem dX6_sheet_23 : decode cX6_sheet 23 = .ok (.aload_n 0, 1) := by decide +kernel
theorem dX6_sheet_24 : decode cX6_sheet 24 = .ok (.getfield 23, 3) := by decide +kernel
theorem dX6_sheet_27 : decode cX6_sheet 27 = .ok (.iload_n 1, 1) := by decide +kernel
theorem dX6_sheet_28 : decode cX6_sheet 28 = .ok (.iload_n 2, 1) := by decide +kernel
theorem dX6_sheet_29 : decode cX6_sheet 29 = .ok (.iastore, 1) := by decide +kernel
theorem dX6_sheet_30 : decode cX6_sheet 30 = .ok (.aload_n 0, 1) := by decide +kernel
theorem dX6_sheet_31 : decode cX6_sheet 31 = .ok (.getfield 20, 3) := by decide +kernel
theorem dX6_sheet_34 : decode cX6_sheet 34 = .ok (.iload_n 1, 1) := by decide +kernel
theorem dX6_sheet_35 : decode cX6_sheet 35 = .ok (.iload_n 3, 1) := by decide +kernel
theorem dX6_sheet_36 : decode cX6_sheet 36 = .ok (.iastore, 1) := by decide +kernel
theorem dX6_sheet_37 : decode cX6_sheet 37 = .ok (.iconst 0, 1) := by decide +kernel
theorem dX6_sheet_38 : decode cX6_sheet 38 = .ok (.istore 4, 2) := by decide +kernel
theorem dX6_sheet_40 : decode cX6_sheet 40 = .ok (.iload 4, 2) := by decide +kernel
theorem dX6_sheet_42 : decode cX6_sheet 42 = .ok (.bipush 24, 2) := by decide +kernel
theorem dX6_sheet_44 : decode cX6_sheet 44 = .ok (.if_icmp .ge 22, 3) := by decide +kernel
theorem dX6_sheet_47 : decode cX6_sheet 47 = .ok (.aload_n 0, 1) := by decide +kernel
theorem dX6_sheet_48 : decode cX6_sheet 48 = .ok (.getfield 16, 3) := by decide +kernel
theorem dX6_sheet_51 : decode cX6_sheet 51 = .ok (.bipush 24, 2) := by decide +kernel
theorem dX6_sheet_53 : decode cX6_sheet 53 = .ok (.iload_n 1, 1) := by decide +kernel
theorem dX6_sheet_54 : decode cX6_sheet 54 = .ok (.imul, 1) := by decide +kernel
theorem dX6_sheet_55 : decode cX6_sheet 55 = .ok (.iload 4, 2) := by decide +kernel
theorem dX6_sheet_57 : decode cX6_sheet 57 = .ok (.iadd, 1) := by decide +kernel
theorem dX6_sheet_58 : decode cX6_sheet 58 = .ok (.lconst 0, 1) := by decide +kernel
theorem dX6_sheet_59 : decode cX6_sheet 59 = .ok (.lastore, 1) := by decide +kernel
theorem dX6_sheet_60 : decode cX6_sheet 60 = .ok (.iinc 4 1, 3) := by decide +kernel
theorem dX6_sheet_63 : decode cX6_sheet 63 = .ok (.goto (-23), 3) := by decide +kernel
theorem dX6_sheet_66 : decode cX6_sheet 66 = .ok (.iload_n 3, 1) := by decide +kernel
theorem dX6_sheet_67 : decode cX6_sheet 67 = .ok (.ireturn, 1) := by decide +kernel
theorem dX6_drop_0 : decode cX6_drop 0 = .ok (.iload_n 1, 1) := by decide +kernel
theorem dX6_drop_1 : decode cX6_drop 1 = .ok (.invokestatic 205, 3) := by decide +kernel
theorem dX6_drop_4 : decode cX6_drop 4 = .ok (.ifCond .ne 5, 3) := by decide +kernel
theorem dX6_drop_7 : decode cX6_drop 7 = .ok (.iconst (-1), 1) := by decide +kernel
theorem dX6_drop_8 : decode cX6_drop 8 = .ok (.ireturn, 1) := by decide +kernel
theorem dX6_drop_9 : decode cX6_drop 9 = .ok (.aload_n 0, 1) := by decide +kernel
theorem dX6_drop_10 : decode cX6_drop 10 = .ok (.getfield 20, 3) := by decide +kernel
theorem dX6_drop_13 : decode cX6_drop 13 = .ok (.iload_n 1, 1) := by decide +kernel
theorem dX6_drop_14 : decode cX6_drop 14 = .ok (.iaload, 1) := by decide +kernel
theorem dX6_drop_15 : decode cX6_drop 15 = .ok (.ifCond .ge 6, 3) := by decide +kernel
theorem dX6_drop_18 : decode cX6_drop 18 = .ok (.bipush (-11), 2) := by decide +kernel
theorem dX6_drop_20 : decode cX6_drop 20 = .ok (.ireturn, 1) := by decide +kernel
theorem dX6_drop_21 : decode cX6_drop 21 = .ok (.aload_n 0, 1) := by decide +kernel
theorem dX6_drop_22 : decode cX6_drop 22 = .ok (.getfield 20, 3) := by decide +kernel
theorem dX6_drop_25 : decode cX6_drop 25 = .ok (.iload_n 1, 1) := by decide +kernel
theorem dX6_drop_26 : decode cX6_drop 26 = .ok (.iaload, 1) := by decide +kernel
theorem dX6_drop_27 : decode cX6_drop 27 = .ok (.istore_n 2, 1) := by decide +kernel
theorem dX6_drop_28 : decode cX6_drop 28 = .ok (.aload_n 0, 1) := by decide +kernel
theorem dX6_drop_29 : decode cX6_drop 29 = .ok (.getfield 20, 3) := by decide +kernel
theorem dX6_drop_32 : decode cX6_drop 32 = .ok (.iload_n 1, 1) := by decide +kernel
theorem dX6_drop_33 : decode cX6_drop 33 = .ok (.iconst (-1), 1) := by decide +kernel
theorem dX6_drop_34 : decode cX6_drop 34 = .ok (.iastore, 1) := by decide +kernel
theorem dX6_drop_35 : decode cX6_drop 35 = .ok (.iload_n 2, 1) := by decide +kernel
theorem dX6_drop_36 : decode cX6_drop 36 = .ok (.ireturn, 1) := by decide +kernel
theorem dX6_item_0 : decode cX6_item 0 = .ok (.iload_n 1, 1) := by decide +kernel
theorem dX6_item_1 : decode cX6_item 1 = .ok (.iload_n 2, 1) := by decide +kernel
theorem dX6_item_2 : decode cX6_item 2 = .ok (.invokestatic 208, 3) := by decide +kernel
theorem dX6_item_5 : decode cX6_item 5 = .ok (.ifCond .ne 5, 3) := by decide +kernel
theorem dX6_item_8 : decode cX6_item 8 = .ok (.iconst (-1), 1) := by decide +kernel
theorem dX6_item_9 : decode cX6_item 9 = .ok (.ireturn, 1) := by decide +kernel
theorem dX6_item_10 : decode cX6_item 10 = .ok (.aload_n 0, 1) := by decide +kernel
theorem dX6_item_11 : decode cX6_item 11 = .ok (.iload_n 1, 1) := by decide +kernel
theorem dX6_item_12 : decode cX6_item 12 = .ok (.iload_n 2, 1) := by decide +kernel
theorem dX6_item_13 : decode cX6_item 13 = .ok (.iload_n 3, 1) := by decide +kernel
theorem dX6_item_14 : decode cX6_item 14 = .ok (.iconst 1, 1) := by decide +kernel
theorem dX6_item_15 : decode cX6_item 15 = .ok (.invokevirtual 213, 3) := by decide +kernel
theorem dX6_item_18 : decode cX6_item 18 = .ok (.istore 6, 2) := by decide +kernel
theorem dX6_item_20 : decode cX6_item 20 = .ok (.iload 6, 2) := by decide +kernel
theorem dX6_item_22 : decode cX6_item 22 = .ok (.ifCond .ge 6, 3) := by decide +kernel
theorem dX6_item_25 : decode cX6_item 25 = .ok (.iload 6, 2) := by decide +kernel
theorem dX6_item_27 : decode cX6_item 27 = .ok (.ireturn, 1) := by decide +kernel
theorem dX6_item_28 : decode cX6_item 28 = .ok (.aload_n 0, 1) := by decide +kernel
theorem dX6_item_29 : decode cX6_item 29 = .ok (.getfield 16, 3) := by decide +kernel
theorem dX6_item_32 : decode cX6_item 32 = .ok (.bipush 24, 2) := by decide +kernel
theorem dX6_item_34 : decode cX6_item 34 = .ok (.iload_n 1, 1) := by decide +kernel
theorem dX6_item_35 : decode cX6_item 35 = .ok (.imul, 1) := by decide +kernel
theorem dX6_item_36 : decode cX6_item 36 = .ok (.iload_n 3, 1) := by decide +kernel
theorem dX6_item_37 : decode cX6_item 37 = .ok (.iadd, 1) := by decide +kernel
theorem dX6_item_38 : decode cX6_item 38 = .ok (.iload_n 2, 1) := by decide +kernel
theorem dX6_item_39 : decode cX6_item 39 = .ok (.lload 4, 2) := by decide +kernel
theorem dX6_item_41 : decode cX6_item 41 = .ok (.invokestatic 219, 3) := by decide +kernel
theorem dX6_item_44 : decode cX6_item 44 = .ok (.lastore, 1) := by decide +kernel
theorem dX6_item_45 : decode cX6_item 45 = .ok (.iconst 1, 1) := by decide +kernel
theorem dX6_item_46 : decode cX6_item 46 = .ok (.ireturn, 1) := by decide +kernel
theorem dX6_copy_0 : decode cX6_copy 0 = .ok (.iload_n 1, 1) := by decide +kernel
theorem dX6_copy_1 : decode cX6_copy 1 = .ok (.invokestatic 205, 3) := by decide +kernel
theorem dX6_copy_4 : decode cX6_copy 4 = .ok (.ifCond .eq 10, 3) := by decide +kernel
theorem dX6_copy_7 : decode cX6_copy 7 = .ok (.iload_n 3, 1) := by decide +kernel
theorem dX6_copy_8 : decode cX6_copy 8 = .ok (.invokestatic 205, 3) := by decide +kernel
theorem dX6_copy_11 : decode cX6_copy 11 = .ok (.ifCond .ne 5, 3) := by decide +kernel
theorem dX6_copy_14 : decode cX6_copy 14 = .ok (.iconst (-1), 1) := by decide +kernel
theorem dX6_copy_15 : decode cX6_copy 15 = .ok (.ireturn, 1) := by decide +kernel
theorem dX6_copy_16 : decode cX6_copy 16 = .ok (.aload_n 0, 1) := by decide +kernel
theorem dX6_copy_17 : decode cX6_copy 17 = .ok (.getfield 20, 3) := by decide +kernel
theorem dX6_copy_20 : decode cX6_copy 20 = .ok (.iload_n 1, 1) := by decide +kernel
theorem dX6_copy_21 : decode cX6_copy 21 = .ok (.iaload, 1) := by decide +kernel
theorem dX6_copy_22 : decode cX6_copy 22 = .ok (.ifCond .lt 12, 3) := by decide +kernel
theorem dX6_copy_25 : decode cX6_copy 25 = .ok (.aload_n 0, 1) := by decide +kernel
theorem dX6_copy_26 : decode cX6_copy 26 = .ok (.getfield 20, 3) := by decide +kernel
theorem dX6_copy_29 : decode cX6_copy 29 = .ok (.iload_n 3, 1) := by decide +kernel
theorem dX6_copy_30 : decode cX6_copy 30 = .ok (.iaload, 1) := by decide +kernel
theorem dX6_copy_31 : decode cX6_copy 31 = .ok (.ifCond .ge 6, 3) := by decide +kernel
theorem dX6_copy_34 : decode cX6_copy 34 = .ok (.bipush (-11), 2) := by decide +kernel
theorem dX6_copy_36 : decode cX6_copy 36 = .ok (.ireturn, 1) := by decide +kernel
theorem dX6_copy_37 : decode cX6_copy 37 = .ok (.aload_n 0, 1) := by decide +kernel
theorem dX6_copy_38 : decode cX6_copy 38 = .ok (.getfield 23, 3) := by decide +kernel
theorem dX6_copy_41 : decode cX6_copy 41 = .ok (.iload_n 1, 1) := by decide +kernel
theorem dX6_copy_42 : decode cX6_copy 42 = .ok (.iaload, 1) := by decide +kernel
theorem dX6_copy_43 : decode cX6_copy 43 = .ok (.aload_n 0, 1) := by decide +kernel
theorem dX6_copy_44 : decode cX6_copy 44 = .ok (.getfield 23, 3) := by decide +kernel
theorem dX6_copy_47 : decode cX6_copy 47 = .ok (.iload_n 3, 1) := by decide +kernel
theorem dX6_copy_48 : decode cX6_copy 48 = .ok (.iaload, 1) := by decide +kernel
theorem dX6_copy_49 : decode cX6_copy 49 = .ok (.if_icmp .eq 6, 3) := by decide +kernel
theorem dX6_copy_52 : decode cX6_copy 52 = .ok (.bipush (-12), 2) := by decide +kernel
theorem dX6_copy_54 : decode cX6_copy 54 = .ok (.ireturn, 1) := by decide +kernel
theorem dX6_copy_55 : decode cX6_copy 55 = .ok (.aload_n 0, 1) := by decide +kernel
theorem dX6_copy_56 : decode cX6_copy 56 = .ok (.iload_n 1, 1) := by decide +kernel
theorem dX6_copy_57 : decode cX6_copy 57 = .ok (.aload_n 0, 1) := by decide +kernel
theorem dX6_copy_58 : decode cX6_copy 58 = .ok (.getfield 23, 3) := by decide +kernel
theorem dX6_copy_61 : decode cX6_copy 61 = .ok (.iload_n 1, 1) := by decide +kernel
theorem dX6_copy_62 : decode cX6_copy 62 = .ok (.iaload, 1) := by decide +kernel
theorem dX6_copy_63 : decode cX6_copy 63 = .ok (.iload_n 2, 1) := by decide +kernel
theorem dX6_copy_64 : decode cX6_copy 64 = .ok (.iload 5, 2) := by decide +kernel
theorem dX6_copy_66 : decode cX6_copy 66 = .ok (.invokevirtual 213, 3) := by decide +kernel
theorem dX6_copy_69 : decode cX6_copy 69 = .ok (.ifCond .lt 21, 3) := by decide +kernel
theorem dX6_copy_72 : decode cX6_copy 72 = .ok (.aload_n 0, 1) := by decide +kernel
theorem dX6_copy_73 : decode cX6_copy 73 = .ok (.iload_n 3, 1) := by decide +kernel
theorem dX6_copy_74 : decode cX6_copy 74 = .ok (.aload_n 0, 1) := by decide +kernel
theorem dX6_copy_75 : decode cX6_copy 75 = .ok (.getfield 23, 3) := by decide +kernel
theorem dX6_copy_78 : decode cX6_copy 78 = .ok (.iload_n 3, 1) := by decide +kernel
theorem dX6_copy_79 : decode cX6_copy 79 = .ok (.iaload, 1) := by decide +kernel
theorem dX6_copy_80 : decode cX6_copy 80 = .ok (.iload 4, 2) := by decide +kernel
theorem dX6_copy_82 : decode cX6_copy 82 = .ok (.iload 5, 2) := by decide +kernel
theorem dX6_copy_84 : decode cX6_copy 84 = .ok (.invokevirtual 213, 3) := by decide +kernel
theorem dX6_copy_87 : decode cX6_copy 87 = .ok (.ifCond .ge 6, 3) := by decide +kernel
theorem dX6_copy_90 : decode cX6_copy 90 = .ok (.bipush (-13), 2) := by decide +kernel
theorem dX6_copy_92 : decode cX6_copy 92 = .ok (.ireturn, 1) := by decide +kernel
theorem dX6_copy_93 : decode cX6_copy 93 = .ok (.iconst 0, 1) := by decide +kernel
theorem dX6_copy_94 : decode cX6_copy 94 = .ok (.istore 6, 2) := by decide +kernel
theorem dX6_copy_96 : decode cX6_copy 96 = .ok (.iload 6, 2) := by decide +kernel
theorem dX6_copy_98 : decode cX6_copy 98 = .ok (.iload 5, 2) := by decide +kernel
theorem dX6_copy_100 : decode cX6_copy 100 = .ok (.if_icmp .ge 30, 3) := by decide +kernel
theorem dX6_copy_103 : decode cX6_copy 103 = .ok (.aload_n 0, 1) := by decide +kernel
theorem dX6_copy_104 : decode cX6_copy 104 = .ok (.getfield 47, 3) := by decide +kernel
theorem dX6_copy_107 : decode cX6_copy 107 = .ok (.iload 6, 2) := by decide +kernel
theorem dX6_copy_109 : decode cX6_copy 109 = .ok (.aload_n 0, 1) := by decide +kernel
theorem dX6_copy_110 : decode cX6_copy 110 = .ok (.getfield 16, 3) := by decide +kernel
theorem dX6_copy_113 : decode cX6_copy 113 = .ok (.bipush 24, 2) := by decide +kernel
theorem dX6_copy_115 : decode cX6_copy 115 = .ok (.iload_n 1, 1) := by decide +kernel
theorem dX6_copy_116 : decode cX6_copy 116 = .ok (.imul, 1) := by decide +kernel
theorem dX6_copy_117 : decode cX6_copy 117 = .ok (.iload_n 2, 1) := by decide +kernel
theorem dX6_copy_118 : decode cX6_copy 118 = .ok (.iadd, 1) := by decide +kernel
theorem dX6_copy_119 : decode cX6_copy 119 = .ok (.iload 6, 2) := by decide +kernel
theorem dX6_copy_121 : decode cX6_copy 121 = .ok (.iadd, 1) := by decide +kernel
theorem dX6_copy_122 : decode cX6_copy 122 = .ok (.laload, 1) := by decide +kernel
theorem dX6_copy_123 : decode cX6_copy 123 = .ok (.lastore, 1) := by decide +kernel
theorem dX6_copy_124 : decode cX6_copy 124 = .ok (.iinc 6 1, 3) := by decide +kernel
theorem dX6_copy_127 : decode cX6_copy 127 = .ok (.goto (-31), 3) := by decide +kernel
theorem dX6_copy_130 : decode cX6_copy 130 = .ok (.iconst 0, 1) := by decide +kernel
theorem dX6_copy_131 : decode cX6_copy 131 = .ok (.istore 6, 2) := by decide +kernel
theorem dX6_copy_133 : decode cX6_copy 133 = .ok (.iload 6, 2) := by decide +kernel
theorem dX6_copy_135 : decode cX6_copy 135 = .ok (.iload 5, 2) := by decide +kernel
theorem dX6_copy_137 : decode cX6_copy 137 = .ok (.if_icmp .ge 31, 3) := by decide +kernel
theorem dX6_copy_140 : decode cX6_copy 140 = .ok (.aload_n 0, 1) := by decide +kernel
theorem dX6_copy_141 : decode cX6_copy 141 = .ok (.getfield 16, 3) := by decide +kernel
theorem dX6_copy_144 : decode cX6_copy 144 = .ok (.bipush 24, 2) := by decide +kernel
theorem dX6_copy_146 : decode cX6_copy 146 = .ok (.iload_n 3, 1) := by decide +kernel
theorem dX6_copy_147 : decode cX6_copy 147 = .ok (.imul, 1) := by decide +kernel
theorem dX6_copy_148 : decode cX6_copy 148 = .ok (.iload 4, 2) := by decide +kernel
theorem dX6_copy_150 : decode cX6_copy 150 = .ok (.iadd, 1) := by decide +kernel
theorem dX6_copy_151 : decode cX6_copy 151 = .ok (.iload 6, 2) := by decide +kernel
theorem dX6_copy_153 : decode cX6_copy 153 = .ok (.iadd, 1) := by decide +kernel
theorem dX6_copy_154 : decode cX6_copy 154 = .ok (.aload_n 0, 1) := by decide +kernel
theorem dX6_copy_155 : decode cX6_copy 155 = .ok (.getfield 47, 3) := by decide +kernel
theorem dX6_copy_158 : decode cX6_copy 158 = .ok (.iload 6, 2) := by decide +kernel
theorem dX6_copy_160 : decode cX6_copy 160 = .ok (.laload, 1) := by decide +kernel
theorem dX6_copy_161 : decode cX6_copy 161 = .ok (.lastore, 1) := by decide +kernel
theorem dX6_copy_162 : decode cX6_copy 162 = .ok (.iinc 6 1, 3) := by decide +kernel
theorem dX6_copy_165 : decode cX6_copy 165 = .ok (.goto (-32), 3) := by decide +kernel
theorem dX6_copy_168 : decode cX6_copy 168 = .ok (.iload 5, 2) := by decide +kernel
theorem dX6_copy_170 : decode cX6_copy 170 = .ok (.ireturn, 1) := by decide +kernel
end
