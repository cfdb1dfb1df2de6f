section
-- ===== PART A: goes FIRST, ahead of the names: the tables' words, and 'selects' of the private methods out of them =====
/-- a private method of a class that the tables say can be made, by its rows of tables_1 -/
def lw_okq (q : MethodName × Nat) : Prop := (q.1.cls ≠ "java/lang/invoke/MethodHandle" ∧ q.1.cls ≠ "java/lang/invoke/VarHandle") ∧ Cond.instantiable q.1.cls q.2 ∈ tables_1 ∧ Cond.privateMethod q.1 ∈ tables_1 ∧ Cond.instanceMethod q.1 ∈ tables_1
theorem lw_p0 : lw_okq (⟨"PinAngels$Tape", "readPlaces", "(LPinAngels$Ring;)Z"⟩, 3) := ⟨⟨by decide +kernel, by decide +kernel⟩, List.mem_of_getElem? (i := 99) (by decide +kernel), List.mem_of_getElem? (i := 329) (by decide +kernel), List.mem_of_getElem? (i := 330) (by decide +kernel)⟩
theorem lw_p1 : lw_okq (⟨"PinAngels$Tape", "takes", "(I)Z"⟩, 3) := ⟨⟨by decide +kernel, by decide +kernel⟩, List.mem_of_getElem? (i := 99) (by decide +kernel), List.mem_of_getElem? (i := 333) (by decide +kernel), List.mem_of_getElem? (i := 334) (by decide +kernel)⟩
theorem lw_p2 : lw_okq (⟨"PinAngels$Tape", "next", "()I"⟩, 3) := ⟨⟨by decide +kernel, by decide +kernel⟩, List.mem_of_getElem? (i := 99) (by decide +kernel), List.mem_of_getElem? (i := 337) (by decide +kernel), List.mem_of_getElem? (i := 338) (by decide +kernel)⟩
theorem lw_p3 : lw_okq (⟨"PinAngels$Tape", "readFigures", "(LPinAngels$Ring;)Z"⟩, 3) := ⟨⟨by decide +kernel, by decide +kernel⟩, List.mem_of_getElem? (i := 99) (by decide +kernel), List.mem_of_getElem? (i := 342) (by decide +kernel), List.mem_of_getElem? (i := 343) (by decide +kernel)⟩
theorem lw_p4 : lw_okq (⟨"PinAngels$Tape", "readFigure", "(LPinAngels$Ring;)Z"⟩, 3) := ⟨⟨by decide +kernel, by decide +kernel⟩, List.mem_of_getElem? (i := 99) (by decide +kernel), List.mem_of_getElem? (i := 346) (by decide +kernel), List.mem_of_getElem? (i := 347) (by decide +kernel)⟩
theorem lw_p5 : lw_okq (⟨"PinAngels$Tape", "takeDigit", "(I)I"⟩, 3) := ⟨⟨by decide +kernel, by decide +kernel⟩, List.mem_of_getElem? (i := 99) (by decide +kernel), List.mem_of_getElem? (i := 353) (by decide +kernel), List.mem_of_getElem? (i := 354) (by decide +kernel)⟩
theorem lw_p6 : lw_okq (⟨"PinAngels$Tape", "readTune", "(LPinAngels$Ring;)Z"⟩, 3) := ⟨⟨by decide +kernel, by decide +kernel⟩, List.mem_of_getElem? (i := 99) (by decide +kernel), List.mem_of_getElem? (i := 358) (by decide +kernel), List.mem_of_getElem? (i := 359) (by decide +kernel)⟩
theorem lw_p7 : lw_okq (⟨"PinAngels", "refusedBeats", "(I)I"⟩, 9) := ⟨⟨by decide +kernel, by decide +kernel⟩, List.mem_of_getElem? (i := 12) (by decide +kernel), List.mem_of_getElem? (i := 395) (by decide +kernel), List.mem_of_getElem? (i := 396) (by decide +kernel)⟩
theorem lw_p8 : lw_okq (⟨"PinAngels", "roundsTillAllBack", "()I"⟩, 9) := ⟨⟨by decide +kernel, by decide +kernel⟩, List.mem_of_getElem? (i := 12) (by decide +kernel), List.mem_of_getElem? (i := 482) (by decide +kernel), List.mem_of_getElem? (i := 483) (by decide +kernel)⟩
theorem lw_p9 : lw_okq (⟨"PinAngels$Search", "comeTo", "(III)V"⟩, 5) := ⟨⟨by decide +kernel, by decide +kernel⟩, List.mem_of_getElem? (i := 134) (by decide +kernel), List.mem_of_getElem? (i := 506) (by decide +kernel), List.mem_of_getElem? (i := 507) (by decide +kernel)⟩
theorem lw_p10 : lw_okq (⟨"PinAngels", "countWays", "(II)V"⟩, 9) := ⟨⟨by decide +kernel, by decide +kernel⟩, List.mem_of_getElem? (i := 12) (by decide +kernel), List.mem_of_getElem? (i := 538) (by decide +kernel), List.mem_of_getElem? (i := 539) (by decide +kernel)⟩
theorem lw_p11 : lw_okq (⟨"PinAngels", "countWaysOn", "()V"⟩, 9) := ⟨⟨by decide +kernel, by decide +kernel⟩, List.mem_of_getElem? (i := 12) (by decide +kernel), List.mem_of_getElem? (i := 542) (by decide +kernel), List.mem_of_getElem? (i := 543) (by decide +kernel)⟩
theorem lw_p12 : lw_okq (⟨"PinAngels", "isSeenAsTold", "(IIIII)Z"⟩, 9) := ⟨⟨by decide +kernel, by decide +kernel⟩, List.mem_of_getElem? (i := 12) (by decide +kernel), List.mem_of_getElem? (i := 576) (by decide +kernel), List.mem_of_getElem? (i := 577) (by decide +kernel)⟩
theorem lw_p13 : lw_okq (⟨"PinAngels", "goesAsTold", "(LPinAngels$Ring;IIII)Z"⟩, 9) := ⟨⟨by decide +kernel, by decide +kernel⟩, List.mem_of_getElem? (i := 12) (by decide +kernel), List.mem_of_getElem? (i := 593) (by decide +kernel), List.mem_of_getElem? (i := 594) (by decide +kernel)⟩
theorem lw_p14 : lw_okq (⟨"PinAngelsModel", "taken", "()I"⟩, 16) := ⟨⟨by decide +kernel, by decide +kernel⟩, List.mem_of_getElem? (i := 639) (by decide +kernel), List.mem_of_getElem? (i := 705) (by decide +kernel), List.mem_of_getElem? (i := 706) (by decide +kernel)⟩
theorem lw_p15 : lw_okq (⟨"PinAngelsModel", "isFigure", "(I)Z"⟩, 16) := ⟨⟨by decide +kernel, by decide +kernel⟩, List.mem_of_getElem? (i := 639) (by decide +kernel), List.mem_of_getElem? (i := 721) (by decide +kernel), List.mem_of_getElem? (i := 722) (by decide +kernel)⟩
def lw_privs_1 : List (MethodName × Nat) := [(⟨"PinAngels$Tape", "readPlaces", "(LPinAngels$Ring;)Z"⟩, 3), (⟨"PinAngels$Tape", "takes", "(I)Z"⟩, 3), (⟨"PinAngels$Tape", "next", "()I"⟩, 3), (⟨"PinAngels$Tape", "readFigures", "(LPinAngels$Ring;)Z"⟩, 3), (⟨"PinAngels$Tape", "readFigure", "(LPinAngels$Ring;)Z"⟩, 3), (⟨"PinAngels$Tape", "takeDigit", "(I)I"⟩, 3), (⟨"PinAngels$Tape", "readTune", "(LPinAngels$Ring;)Z"⟩, 3), (⟨"PinAngels", "refusedBeats", "(I)I"⟩, 9), (⟨"PinAngels", "roundsTillAllBack", "()I"⟩, 9), (⟨"PinAngels$Search", "comeTo", "(III)V"⟩, 5), (⟨"PinAngels", "countWays", "(II)V"⟩, 9), (⟨"PinAngels", "countWaysOn", "()V"⟩, 9), (⟨"PinAngels", "isSeenAsTold", "(IIIII)Z"⟩, 9), (⟨"PinAngels", "goesAsTold", "(LPinAngels$Ring;IIII)Z"⟩, 9), (⟨"PinAngelsModel", "taken", "()I"⟩, 16), (⟨"PinAngelsModel", "isFigure", "(I)Z"⟩, 16)]
theorem lw_r1 : ∀ q ∈ lw_privs_1, lw_okq q := List.forall_mem_cons.mpr ⟨lw_p0, List.forall_mem_cons.mpr ⟨lw_p1, List.forall_mem_cons.mpr ⟨lw_p2, List.forall_mem_cons.mpr ⟨lw_p3, List.forall_mem_cons.mpr ⟨lw_p4, List.forall_mem_cons.mpr ⟨lw_p5, List.forall_mem_cons.mpr ⟨lw_p6, List.forall_mem_cons.mpr ⟨lw_p7, List.forall_mem_cons.mpr ⟨lw_p8, List.forall_mem_cons.mpr ⟨lw_p9, List.forall_mem_cons.mpr ⟨lw_p10, List.forall_mem_cons.mpr ⟨lw_p11, List.forall_mem_cons.mpr ⟨lw_p12, List.forall_mem_cons.mpr ⟨lw_p13, List.forall_mem_cons.mpr ⟨lw_p14, List.forall_mem_cons.mpr ⟨lw_p15, fun _ h => absurd h List.not_mem_nil⟩⟩⟩⟩⟩⟩⟩⟩⟩⟩⟩⟩⟩⟩⟩⟩
theorem lw_p16 : lw_okq (⟨"PinAngelsModel", "orderOf", "(I)I"⟩, 16) := ⟨⟨by decide +kernel, by decide +kernel⟩, List.mem_of_getElem? (i := 639) (by decide +kernel), List.mem_of_getElem? (i := 733) (by decide +kernel), List.mem_of_getElem? (i := 734) (by decide +kernel)⟩
theorem lw_p17 : lw_okq (⟨"PinAngelsModel", "leadsOf", "(II)I"⟩, 16) := ⟨⟨by decide +kernel, by decide +kernel⟩, List.mem_of_getElem? (i := 639) (by decide +kernel), List.mem_of_getElem? (i := 737) (by decide +kernel), List.mem_of_getElem? (i := 738) (by decide +kernel)⟩
theorem lw_p18 : lw_okq (⟨"PinAngelsModel", "keptBy", "(I)I"⟩, 16) := ⟨⟨by decide +kernel, by decide +kernel⟩, List.mem_of_getElem? (i := 639) (by decide +kernel), List.mem_of_getElem? (i := 750) (by decide +kernel), List.mem_of_getElem? (i := 751) (by decide +kernel)⟩
theorem lw_p19 : lw_okq (⟨"PinAngelsModel", "sameAs", "(I)I"⟩, 16) := ⟨⟨by decide +kernel, by decide +kernel⟩, List.mem_of_getElem? (i := 639) (by decide +kernel), List.mem_of_getElem? (i := 754) (by decide +kernel), List.mem_of_getElem? (i := 755) (by decide +kernel)⟩
theorem lw_p20 : lw_okq (⟨"PinAngelsModel", "areAlike", "(II)Z"⟩, 16) := ⟨⟨by decide +kernel, by decide +kernel⟩, List.mem_of_getElem? (i := 639) (by decide +kernel), List.mem_of_getElem? (i := 758) (by decide +kernel), List.mem_of_getElem? (i := 759) (by decide +kernel)⟩
theorem lw_p21 : lw_okq (⟨"PinAngelsModel", "isAngel", "(I)Z"⟩, 16) := ⟨⟨by decide +kernel, by decide +kernel⟩, List.mem_of_getElem? (i := 639) (by decide +kernel), List.mem_of_getElem? (i := 770) (by decide +kernel), List.mem_of_getElem? (i := 771) (by decide +kernel)⟩
theorem lw_p22 : lw_okq (⟨"PinAngelsModel", "takesRing", "()Z"⟩, 16) := ⟨⟨by decide +kernel, by decide +kernel⟩, List.mem_of_getElem? (i := 639) (by decide +kernel), List.mem_of_getElem? (i := 791) (by decide +kernel), List.mem_of_getElem? (i := 792) (by decide +kernel)⟩
theorem lw_p23 : lw_okq (⟨"PinAngelsModel", "takesPlaces", "()Z"⟩, 16) := ⟨⟨by decide +kernel, by decide +kernel⟩, List.mem_of_getElem? (i := 639) (by decide +kernel), List.mem_of_getElem? (i := 795) (by decide +kernel), List.mem_of_getElem? (i := 796) (by decide +kernel)⟩
theorem lw_p24 : lw_okq (⟨"PinAngelsModel", "peek", "()I"⟩, 16) := ⟨⟨by decide +kernel, by decide +kernel⟩, List.mem_of_getElem? (i := 639) (by decide +kernel), List.mem_of_getElem? (i := 799) (by decide +kernel), List.mem_of_getElem? (i := 800) (by decide +kernel)⟩
theorem lw_p25 : lw_okq (⟨"PinAngelsModel", "takes", "(I)Z"⟩, 16) := ⟨⟨by decide +kernel, by decide +kernel⟩, List.mem_of_getElem? (i := 639) (by decide +kernel), List.mem_of_getElem? (i := 803) (by decide +kernel), List.mem_of_getElem? (i := 804) (by decide +kernel)⟩
theorem lw_p26 : lw_okq (⟨"PinAngelsModel", "takesFigure", "()Z"⟩, 16) := ⟨⟨by decide +kernel, by decide +kernel⟩, List.mem_of_getElem? (i := 639) (by decide +kernel), List.mem_of_getElem? (i := 807) (by decide +kernel), List.mem_of_getElem? (i := 808) (by decide +kernel)⟩
theorem lw_p27 : lw_okq (⟨"PinAngelsModel", "takesTune", "()Z"⟩, 16) := ⟨⟨by decide +kernel, by decide +kernel⟩, List.mem_of_getElem? (i := 639) (by decide +kernel), List.mem_of_getElem? (i := 814) (by decide +kernel), List.mem_of_getElem? (i := 815) (by decide +kernel)⟩
theorem lw_p28 : lw_okq (⟨"PinAngelsModel", "bring", "(III)V"⟩, 16) := ⟨⟨by decide +kernel, by decide +kernel⟩, List.mem_of_getElem? (i := 639) (by decide +kernel), List.mem_of_getElem? (i := 818) (by decide +kernel), List.mem_of_getElem? (i := 819) (by decide +kernel)⟩
theorem lw_p29 : lw_okq (⟨"PinAngelsModel", "goneOnes", "()I"⟩, 16) := ⟨⟨by decide +kernel, by decide +kernel⟩, List.mem_of_getElem? (i := 639) (by decide +kernel), List.mem_of_getElem? (i := 826) (by decide +kernel), List.mem_of_getElem? (i := 827) (by decide +kernel)⟩
theorem lw_p30 : lw_okq (⟨"PinAngelsModel", "minds", "()V"⟩, 16) := ⟨⟨by decide +kernel, by decide +kernel⟩, List.mem_of_getElem? (i := 639) (by decide +kernel), List.mem_of_getElem? (i := 835) (by decide +kernel), List.mem_of_getElem? (i := 836) (by decide +kernel)⟩
theorem lw_p31 : lw_okq (⟨"PinAngelsModel", "passes", "()V"⟩, 16) := ⟨⟨by decide +kernel, by decide +kernel⟩, List.mem_of_getElem? (i := 639) (by decide +kernel), List.mem_of_getElem? (i := 839) (by decide +kernel), List.mem_of_getElem? (i := 840) (by decide +kernel)⟩
def lw_privs_2 : List (MethodName × Nat) := [(⟨"PinAngelsModel", "orderOf", "(I)I"⟩, 16), (⟨"PinAngelsModel", "leadsOf", "(II)I"⟩, 16), (⟨"PinAngelsModel", "keptBy", "(I)I"⟩, 16), (⟨"PinAngelsModel", "sameAs", "(I)I"⟩, 16), (⟨"PinAngelsModel", "areAlike", "(II)Z"⟩, 16), (⟨"PinAngelsModel", "isAngel", "(I)Z"⟩, 16), (⟨"PinAngelsModel", "takesRing", "()Z"⟩, 16), (⟨"PinAngelsModel", "takesPlaces", "()Z"⟩, 16), (⟨"PinAngelsModel", "peek", "()I"⟩, 16), (⟨"PinAngelsModel", "takes", "(I)Z"⟩, 16), (⟨"PinAngelsModel", "takesFigure", "()Z"⟩, 16), (⟨"PinAngelsModel", "takesTune", "()Z"⟩, 16), (⟨"PinAngelsModel", "bring", "(III)V"⟩, 16), (⟨"PinAngelsModel", "goneOnes", "()I"⟩, 16), (⟨"PinAngelsModel", "minds", "()V"⟩, 16), (⟨"PinAngelsModel", "passes", "()V"⟩, 16)]
theorem lw_r2 : ∀ q ∈ lw_privs_2, lw_okq q := List.forall_mem_cons.mpr ⟨lw_p16, List.forall_mem_cons.mpr ⟨lw_p17, List.forall_mem_cons.mpr ⟨lw_p18, List.forall_mem_cons.mpr ⟨lw_p19, List.forall_mem_cons.mpr ⟨lw_p20, List.forall_mem_cons.mpr ⟨lw_p21, List.forall_mem_cons.mpr ⟨lw_p22, List.forall_mem_cons.mpr ⟨lw_p23, List.forall_mem_cons.mpr ⟨lw_p24, List.forall_mem_cons.mpr ⟨lw_p25, List.forall_mem_cons.mpr ⟨lw_p26, List.forall_mem_cons.mpr ⟨lw_p27, List.forall_mem_cons.mpr ⟨lw_p28, List.forall_mem_cons.mpr ⟨lw_p29, List.forall_mem_cons.mpr ⟨lw_p30, List.forall_mem_cons.mpr ⟨lw_p31, fun _ h => absurd h List.not_mem_nil⟩⟩⟩⟩⟩⟩⟩⟩⟩⟩⟩⟩⟩⟩⟩⟩
theorem lw_p32 : lw_okq (⟨"PinAngelsModel", "blows", "(I)V"⟩, 16) := ⟨⟨by decide +kernel, by decide +kernel⟩, List.mem_of_getElem? (i := 639) (by decide +kernel), List.mem_of_getElem? (i := 847) (by decide +kernel), List.mem_of_getElem? (i := 848) (by decide +kernel)⟩
theorem lw_p33 : lw_okq (⟨"PinAngelsModel", "behind", "(II)I"⟩, 16) := ⟨⟨by decide +kernel, by decide +kernel⟩, List.mem_of_getElem? (i := 639) (by decide +kernel), List.mem_of_getElem? (i := 886) (by decide +kernel), List.mem_of_getElem? (i := 887) (by decide +kernel)⟩
theorem lw_p34 : lw_okq (⟨"PinAngelsModel", "ringOf", "(I)I"⟩, 16) := ⟨⟨by decide +kernel, by decide +kernel⟩, List.mem_of_getElem? (i := 639) (by decide +kernel), List.mem_of_getElem? (i := 890) (by decide +kernel), List.mem_of_getElem? (i := 891) (by decide +kernel)⟩
theorem lw_p35 : lw_okq (⟨"PinAngelsModel", "goesBy", "(II)I"⟩, 16) := ⟨⟨by decide +kernel, by decide +kernel⟩, List.mem_of_getElem? (i := 639) (by decide +kernel), List.mem_of_getElem? (i := 894) (by decide +kernel), List.mem_of_getElem? (i := 895) (by decide +kernel)⟩
theorem lw_p36 : lw_okq (⟨"PinAngelsModel", "laysLeft", "(I)V"⟩, 16) := ⟨⟨by decide +kernel, by decide +kernel⟩, List.mem_of_getElem? (i := 639) (by decide +kernel), List.mem_of_getElem? (i := 915) (by decide +kernel), List.mem_of_getElem? (i := 916) (by decide +kernel)⟩
theorem lw_p37 : lw_okq (⟨"PinAngelsModel", "ledBy", "(II)I"⟩, 16) := ⟨⟨by decide +kernel, by decide +kernel⟩, List.mem_of_getElem? (i := 639) (by decide +kernel), List.mem_of_getElem? (i := 920) (by decide +kernel), List.mem_of_getElem? (i := 921) (by decide +kernel)⟩
theorem lw_p38 : lw_okq (⟨"PinAngelsModel", "laysFar", "(I)I"⟩, 16) := ⟨⟨by decide +kernel, by decide +kernel⟩, List.mem_of_getElem? (i := 639) (by decide +kernel), List.mem_of_getElem? (i := 928) (by decide +kernel), List.mem_of_getElem? (i := 929) (by decide +kernel)⟩
theorem lw_p39 : lw_okq (⟨"PinAngelsModel", "against", "(IIII)I"⟩, 16) := ⟨⟨by decide +kernel, by decide +kernel⟩, List.mem_of_getElem? (i := 639) (by decide +kernel), List.mem_of_getElem? (i := 964) (by decide +kernel), List.mem_of_getElem? (i := 965) (by decide +kernel)⟩
def lw_privs_3 : List (MethodName × Nat) := [(⟨"PinAngelsModel", "blows", "(I)V"⟩, 16), (⟨"PinAngelsModel", "behind", "(II)I"⟩, 16), (⟨"PinAngelsModel", "ringOf", "(I)I"⟩, 16), (⟨"PinAngelsModel", "goesBy", "(II)I"⟩, 16), (⟨"PinAngelsModel", "laysLeft", "(I)V"⟩, 16), (⟨"PinAngelsModel", "ledBy", "(II)I"⟩, 16), (⟨"PinAngelsModel", "laysFar", "(I)I"⟩, 16), (⟨"PinAngelsModel", "against", "(IIII)I"⟩, 16)]
theorem lw_r3 : ∀ q ∈ lw_privs_3, lw_okq q := List.forall_mem_cons.mpr ⟨lw_p32, List.forall_mem_cons.mpr ⟨lw_p33, List.forall_mem_cons.mpr ⟨lw_p34, List.forall_mem_cons.mpr ⟨lw_p35, List.forall_mem_cons.mpr ⟨lw_p36, List.forall_mem_cons.mpr ⟨lw_p37, List.forall_mem_cons.mpr ⟨lw_p38, List.forall_mem_cons.mpr ⟨lw_p39, fun _ h => absurd h List.not_mem_nil⟩⟩⟩⟩⟩⟩⟩⟩
def lw_privs : List (MethodName × Nat) := lw_privs_1 ++ (lw_privs_2 ++ (lw_privs_3))
def lw_tbl : List Cond := k2_sels lw_privs ++ tables_1
theorem lw_privs_ok : ∀ q ∈ lw_privs, lw_okq q := by
  show ∀ q ∈ lw_privs_1 ++ (lw_privs_2 ++ (lw_privs_3)), lw_okq q
  exact List.forall_mem_append.mpr ⟨lw_r1, List.forall_mem_append.mpr ⟨lw_r2, lw_r3⟩⟩
end
section
def RX0 : String := "PinAngels$Past"
def TX0 : u_T := fun k => match k with
  | 0 => ("PinAngels$Past", "places", "[I", true)
  | 1 => ("PinAngels$Past", "atBeat", "[I", true)
  | 2 => ("PinAngels$Past", "draws", "[I", true)
  | 3 => ("PinAngels$Past", "slot", "I", false)
  | _ => ("PinAngels$Past", "known", "I", false)
def tyX0 : Nat → FieldType := fun k => match k with
  | 0 => .array .int
  | 1 => .array .int
  | 2 => .array .int
  | 3 => .int
  | _ => .int
abbrev wsX00 : List Cond := u_ws RX0 TX0 5
theorem nmX0 : ∀ a, a < 5 → ∀ b, b < 5 → a ≠ b → (TX0 a).2.1 ≠ (TX0 b).2.1 := by decide +kernel
theorem tyX0_ok : ∀ k, k < 5 → parseFieldDescriptor (TX0 k).2.2.1 = some (tyX0 k) := by decide +kernel
abbrev cX0_init : ByteArray := prog_2_method_1_code
def yX0_init : MethodName := ⟨RX0, "<init>", "()V"⟩
abbrev cX0_forget : ByteArray := prog_2_method_2_code
def yX0_forget : MethodName := ⟨RX0, "forget", "()V"⟩
abbrev cX0_becomeLike : ByteArray := prog_2_method_3_code
def yX0_becomeLike : MethodName := ⟨RX0, "becomeLike", "(LPinAngels$Past;)V"⟩
abbrev cX0_note : ByteArray := prog_2_method_4_code
def yX0_note : MethodName := ⟨RX0, "note", "(LPinAngels$Ring;)V"⟩
abbrev cX0_bringBack : ByteArray := prog_2_method_5_code
def yX0_bringBack : MethodName := ⟨RX0, "bringBack", "(LPinAngels$Ring;)V"⟩
def RX1 : String := "PinAngels$Ring"
def TX1 : u_T := fun k => match k with
  | 0 => ("PinAngels$Ring", "places", "[I", true)
  | 1 => ("PinAngels$Ring", "kinds", "[I", true)
  | 2 => ("PinAngels$Ring", "fars", "[I", true)
  | 3 => ("PinAngels$Ring", "led", "[I", true)
  | 4 => ("PinAngels$Ring", "melody", "[I", true)
  | 5 => ("PinAngels$Ring", "past", "LPinAngels$Past;", true)
  | 6 => ("PinAngels$Ring", "angels", "I", false)
  | 7 => ("PinAngels$Ring", "figures", "I", false)
  | 8 => ("PinAngels$Ring", "length", "I", false)
  | 9 => ("PinAngels$Ring", "beat", "I", false)
  | _ => ("PinAngels$Ring", "draw", "I", false)
def tyX1 : Nat → FieldType := fun k => match k with
  | 0 => .array .int
  | 1 => .array .int
  | 2 => .array .int
  | 3 => .array .int
  | 4 => .array .int
  | 5 => .object "PinAngels$Past"
  | 6 => .int
  | 7 => .int
  | 8 => .int
  | 9 => .int
  | _ => .int
abbrev wsX10 : List Cond := u_ws RX1 TX1 11
theorem nmX1 : ∀ a, a < 11 → ∀ b, b < 11 → a ≠ b → (TX1 a).2.1 ≠ (TX1 b).2.1 := by decide +kernel
theorem tyX1_ok : ∀ k, k < 11 → parseFieldDescriptor (TX1 k).2.2.1 = some (tyX1 k) := by decide +kernel
abbrev cX1_init : ByteArray := prog_3_method_1_code
def yX1_init : MethodName := ⟨RX1, "<init>", "()V"⟩
abbrev cX1_clear : ByteArray := prog_3_method_2_code
def yX1_clear : MethodName := ⟨RX1, "clear", "()V"⟩
abbrev cX1_becomeLike : ByteArray := prog_3_method_3_code
def yX1_becomeLike : MethodName := ⟨RX1, "becomeLike", "(LPinAngels$Ring;)V"⟩
abbrev cX1_hasAngel : ByteArray := prog_3_method_4_code
def yX1_hasAngel : MethodName := ⟨RX1, "hasAngel", "(I)Z"⟩
abbrev cX1_hasFigure : ByteArray := prog_3_method_5_code
def yX1_hasFigure : MethodName := ⟨RX1, "hasFigure", "(I)Z"⟩
abbrev cX1_addAngel : ByteArray := prog_3_method_6_code
def yX1_addAngel : MethodName := ⟨RX1, "addAngel", "(I)I"⟩
abbrev cX1_addFigure : ByteArray := prog_3_method_7_code
def yX1_addFigure : MethodName := ⟨RX1, "addFigure", "(II)I"⟩
abbrev cX1_tell : ByteArray := prog_3_method_8_code
def yX1_tell : MethodName := ⟨RX1, "tell", "(III)V"⟩
abbrev cX1_addToTune : ByteArray := prog_3_method_9_code
def yX1_addToTune : MethodName := ⟨RX1, "addToTune", "(I)I"⟩
abbrev cX1_standing : ByteArray := prog_3_method_10_code
def yX1_standing : MethodName := ⟨RX1, "standing", "()I"⟩
abbrev cX1_goneOnes : ByteArray := prog_3_method_11_code
def yX1_goneOnes : MethodName := ⟨RX1, "goneOnes", "()I"⟩
abbrev cX1_ledBy : ByteArray := prog_3_method_12_code
def yX1_ledBy : MethodName := ⟨RX1, "ledBy", "(II)I"⟩
abbrev cX1_setLedBy : ByteArray := prog_3_method_13_code
def yX1_setLedBy : MethodName := ⟨RX1, "setLedBy", "(II)I"⟩
abbrev cX1_orderOf : ByteArray := prog_3_method_14_code
def yX1_orderOf : MethodName := ⟨RX1, "orderOf", "(I)I"⟩
abbrev cX1_turnsTillBack : ByteArray := prog_3_method_15_code
def yX1_turnsTillBack : MethodName := ⟨RX1, "turnsTillBack", "(II)I"⟩
abbrev cX1_keptBy : ByteArray := prog_3_method_16_code
def yX1_keptBy : MethodName := ⟨RX1, "keptBy", "(I)I"⟩
abbrev cX1_leastLike : ByteArray := prog_3_method_17_code
def yX1_leastLike : MethodName := ⟨RX1, "leastLike", "(I)I"⟩
abbrev cX1_leadAlike : ByteArray := prog_3_method_18_code
def yX1_leadAlike : MethodName := ⟨RX1, "leadAlike", "(II)Z"⟩
abbrev cX1_figureOfBeat : ByteArray := prog_3_method_19_code
def yX1_figureOfBeat : MethodName := ⟨RX1, "figureOfBeat", "(I)I"⟩
abbrev cX1_goesOn : ByteArray := prog_3_method_20_code
def yX1_goesOn : MethodName := ⟨RX1, "goesOn", "(II)I"⟩
abbrev cX1_dance : ByteArray := prog_3_method_21_code
def yX1_dance : MethodName := ⟨RX1, "dance", "()V"⟩
abbrev cX1_blow : ByteArray := prog_3_method_22_code
def yX1_blow : MethodName := ⟨RX1, "blow", "(I)V"⟩
abbrev cX1_drawAndBlow : ByteArray := prog_3_method_23_code
def yX1_drawAndBlow : MethodName := ⟨RX1, "drawAndBlow", "()V"⟩
abbrev cX1_walk : ByteArray := prog_3_method_24_code
def yX1_walk : MethodName := ⟨RX1, "walk", "(II)I"⟩
abbrev cX1_roundsTillBack : ByteArray := prog_3_method_25_code
def yX1_roundsTillBack : MethodName := ⟨RX1, "roundsTillBack", "(I)I"⟩
abbrev cX1_placeBehind : ByteArray := prog_3_method_26_code
def yX1_placeBehind : MethodName := ⟨RX1, "placeBehind", "(II)I"⟩
def RX2 : String := "PinAngels$Search"
def TX2 : u_T := fun k => match k with
  | 0 => ("PinAngels$Search", "far", "[I", true)
  | 1 => ("PinAngels$Search", "from", "[I", true)
  | 2 => ("PinAngels$Search", "by", "[I", true)
  | 3 => ("PinAngels$Search", "inTurn", "[I", true)
  | _ => ("PinAngels$Search", "reached", "I", false)
def tyX2 : Nat → FieldType := fun k => match k with
  | 0 => .array .int
  | 1 => .array .int
  | 2 => .array .int
  | 3 => .array .int
  | _ => .int
abbrev wsX20 : List Cond := u_ws RX2 TX2 5
theorem nmX2 : ∀ a, a < 5 → ∀ b, b < 5 → a ≠ b → (TX2 a).2.1 ≠ (TX2 b).2.1 := by decide +kernel
theorem tyX2_ok : ∀ k, k < 5 → parseFieldDescriptor (TX2 k).2.2.1 = some (tyX2 k) := by decide +kernel
abbrev cX2_init : ByteArray := prog_4_method_1_code
def yX2_init : MethodName := ⟨RX2, "<init>", "()V"⟩
abbrev cX2_explore : ByteArray := prog_4_method_2_code
def yX2_explore : MethodName := ⟨RX2, "explore", "(LPinAngels$Ring;I)V"⟩
abbrev cX2_comeTo : ByteArray := prog_4_method_3_code
def yX2_comeTo : MethodName := ⟨RX2, "comeTo", "(III)V"⟩
abbrev cX2_howFar : ByteArray := prog_4_method_4_code
def yX2_howFar : MethodName := ⟨RX2, "howFar", "(I)I"⟩
abbrev cX2_figureOnWay : ByteArray := prog_4_method_5_code
def yX2_figureOnWay : MethodName := ⟨RX2, "figureOnWay", "(II)I"⟩
abbrev cX2_widestPair : ByteArray := prog_4_method_6_code
def yX2_widestPair : MethodName := ⟨RX2, "widestPair", "()I"⟩
def RX3 : String := "PinAngels$Sheets"
def TX3 : u_T := fun k => match k with
  | 0 => ("PinAngels$Sheets", "lanes", "[I", true)
  | 1 => ("PinAngels$Sheets", "sizes", "[I", true)
  | _ => ("PinAngels$Sheets", "items", "[J", true)
def tyX3 : Nat → FieldType := fun k => match k with
  | 0 => .array .int
  | 1 => .array .int
  | _ => .array .long
abbrev wsX30 : List Cond := u_ws RX3 TX3 3
theorem nmX3 : ∀ a, a < 3 → ∀ b, b < 3 → a ≠ b → (TX3 a).2.1 ≠ (TX3 b).2.1 := by decide +kernel
theorem tyX3_ok : ∀ k, k < 3 → parseFieldDescriptor (TX3 k).2.2.1 = some (tyX3 k) := by decide +kernel
abbrev cX3_init : ByteArray := prog_5_method_1_code
def yX3_init : MethodName := ⟨RX3, "<init>", "()V"⟩
abbrev cX3_isThere : ByteArray := prog_5_method_2_code
def yX3_isThere : MethodName := ⟨RX3, "isThere", "(I)Z"⟩
abbrev cX3_hasItems : ByteArray := prog_5_method_3_code
def yX3_hasItems : MethodName := ⟨RX3, "hasItems", "(III)Z"⟩
abbrev cX3_refused : ByteArray := prog_5_method_4_code
def yX3_refused : MethodName := ⟨RX3, "refused", "(IIII)I"⟩
abbrev cX3_renew : ByteArray := prog_5_method_5_code
def yX3_renew : MethodName := ⟨RX3, "renew", "(III)V"⟩
abbrev cX3_takeAway : ByteArray := prog_5_method_6_code
def yX3_takeAway : MethodName := ⟨RX3, "takeAway", "(I)I"⟩
abbrev cX3_itemOf : ByteArray := prog_5_method_7_code
def yX3_itemOf : MethodName := ⟨RX3, "itemOf", "(II)J"⟩
abbrev cX3_put : ByteArray := prog_5_method_8_code
def yX3_put : MethodName := ⟨RX3, "put", "(IIJ)V"⟩
abbrev cX3_carry : ByteArray := prog_5_method_9_code
def yX3_carry : MethodName := ⟨RX3, "carry", "(IIIII)V"⟩
abbrev cX3_lowestBits : ByteArray := prog_5_method_10_code
def yX3_lowestBits : MethodName := ⟨RX3, "lowestBits", "(IJ)J"⟩
def RX4 : String := "PinAngels$Tape"
def TX4 : u_T := fun k => match k with
  | 0 => ("PinAngels$Tape", "letters", "[I", true)
  | 1 => ("PinAngels$Tape", "typed", "I", false)
  | _ => ("PinAngels$Tape", "spot", "I", false)
def tyX4 : Nat → FieldType := fun k => match k with
  | 0 => .array .int
  | 1 => .int
  | _ => .int
abbrev wsX40 : List Cond := u_ws RX4 TX4 3
theorem nmX4 : ∀ a, a < 3 → ∀ b, b < 3 → a ≠ b → (TX4 a).2.1 ≠ (TX4 b).2.1 := by decide +kernel
theorem tyX4_ok : ∀ k, k < 3 → parseFieldDescriptor (TX4 k).2.2.1 = some (tyX4 k) := by decide +kernel
abbrev cX4_init : ByteArray := prog_6_method_1_code
def yX4_init : MethodName := ⟨RX4, "<init>", "()V"⟩
abbrev cX4_isFull : ByteArray := prog_6_method_2_code
def yX4_isFull : MethodName := ⟨RX4, "isFull", "()Z"⟩
abbrev cX4_put : ByteArray := prog_6_method_3_code
def yX4_put : MethodName := ⟨RX4, "put", "(I)I"⟩
abbrev cX4_wipe : ByteArray := prog_6_method_4_code
def yX4_wipe : MethodName := ⟨RX4, "wipe", "()V"⟩
abbrev cX4_readInto : ByteArray := prog_6_method_5_code
def yX4_readInto : MethodName := ⟨RX4, "readInto", "(LPinAngels$Ring;)Z"⟩
abbrev cX4_readPlaces : ByteArray := prog_6_method_6_code
def yX4_readPlaces : MethodName := ⟨RX4, "readPlaces", "(LPinAngels$Ring;)Z"⟩
abbrev cX4_readFigures : ByteArray := prog_6_method_7_code
def yX4_readFigures : MethodName := ⟨RX4, "readFigures", "(LPinAngels$Ring;)Z"⟩
abbrev cX4_readFigure : ByteArray := prog_6_method_8_code
def yX4_readFigure : MethodName := ⟨RX4, "readFigure", "(LPinAngels$Ring;)Z"⟩
abbrev cX4_readTune : ByteArray := prog_6_method_9_code
def yX4_readTune : MethodName := ⟨RX4, "readTune", "(LPinAngels$Ring;)Z"⟩
abbrev cX4_next : ByteArray := prog_6_method_10_code
def yX4_next : MethodName := ⟨RX4, "next", "()I"⟩
abbrev cX4_takes : ByteArray := prog_6_method_11_code
def yX4_takes : MethodName := ⟨RX4, "takes", "(I)Z"⟩
abbrev cX4_takeDigit : ByteArray := prog_6_method_12_code
def yX4_takeDigit : MethodName := ⟨RX4, "takeDigit", "(I)I"⟩
abbrev cX4_kindOf : ByteArray := prog_6_method_13_code
def yX4_kindOf : MethodName := ⟨RX4, "kindOf", "(I)I"⟩
def RX5 : String := "PinAngels"
def TX5 : u_T := fun k => match k with
  | 0 => ("PinAngels", "now", "LPinAngels$Ring;", true)
  | 1 => ("PinAngels", "kept", "LPinAngels$Ring;", true)
  | 2 => ("PinAngels", "tried", "LPinAngels$Ring;", true)
  | 3 => ("PinAngels", "tape", "LPinAngels$Tape;", true)
  | 4 => ("PinAngels", "sheets", "LPinAngels$Sheets;", true)
  | 5 => ("PinAngels", "search", "LPinAngels$Search;", true)
  | 6 => ("PinAngels", "ways", "[I", true)
  | 7 => ("PinAngels", "waysOn", "[I", true)
  | _ => ("PinAngels", "imaged", "Z", false)
def tyX5 : Nat → FieldType := fun k => match k with
  | 0 => .object "PinAngels$Ring"
  | 1 => .object "PinAngels$Ring"
  | 2 => .object "PinAngels$Ring"
  | 3 => .object "PinAngels$Tape"
  | 4 => .object "PinAngels$Sheets"
  | 5 => .object "PinAngels$Search"
  | 6 => .array .int
  | 7 => .array .int
  | _ => .boolean
abbrev wsX50 : List Cond := u_ws RX5 TX5 9
theorem nmX5 : ∀ a, a < 9 → ∀ b, b < 9 → a ≠ b → (TX5 a).2.1 ≠ (TX5 b).2.1 := by decide +kernel
theorem tyX5_ok : ∀ k, k < 9 → parseFieldDescriptor (TX5 k).2.2.1 = some (tyX5 k) := by decide +kernel
abbrev cX5_init : ByteArray := prog_1_method_1_code
def yX5_init : MethodName := ⟨RX5, "<init>", "()V"⟩
abbrev cX5_angel : ByteArray := prog_1_method_2_code
def yX5_angel : MethodName := ⟨RX5, "angel", "(I)I"⟩
abbrev cX5_figure : ByteArray := prog_1_method_3_code
def yX5_figure : MethodName := ⟨RX5, "figure", "(II)I"⟩
abbrev cX5_tune : ByteArray := prog_1_method_4_code
def yX5_tune : MethodName := ⟨RX5, "tune", "(I)I"⟩
abbrev cX5_hush : ByteArray := prog_1_method_5_code
def yX5_hush : MethodName := ⟨RX5, "hush", "()I"⟩
abbrev cX5_of : ByteArray := prog_1_method_6_code
def yX5_of : MethodName := ⟨RX5, "of", "(II)I"⟩
abbrev cX5_leads : ByteArray := prog_1_method_7_code
def yX5_leads : MethodName := ⟨RX5, "leads", "(II)I"⟩
abbrev cX5_at : ByteArray := prog_1_method_8_code
def yX5_at : MethodName := ⟨RX5, "at", "(I)I"⟩
abbrev cX5_seen : ByteArray := prog_1_method_9_code
def yX5_seen : MethodName := ⟨RX5, "seen", "(I)I"⟩
abbrev cX5_type : ByteArray := prog_1_method_10_code
def yX5_type : MethodName := ⟨RX5, "type", "(I)I"⟩
abbrev cX5_ring : ByteArray := prog_1_method_11_code
def yX5_ring : MethodName := ⟨RX5, "ring", "()I"⟩
abbrev cX5_count : ByteArray := prog_1_method_12_code
def yX5_count : MethodName := ⟨RX5, "count", "(I)I"⟩
abbrev cX5_beats : ByteArray := prog_1_method_13_code
def yX5_beats : MethodName := ⟨RX5, "beats", "(I)I"⟩
abbrev cX5_draught : ByteArray := prog_1_method_14_code
def yX5_draught : MethodName := ⟨RX5, "draught", "(I)I"⟩
abbrev cX5_leave : ByteArray := prog_1_method_15_code
def yX5_leave : MethodName := ⟨RX5, "leave", "(I)I"⟩
abbrev cX5_come : ByteArray := prog_1_method_16_code
def yX5_come : MethodName := ⟨RX5, "come", "(II)I"⟩
abbrev cX5_drift : ByteArray := prog_1_method_17_code
def yX5_drift : MethodName := ⟨RX5, "drift", "(I)I"⟩
abbrev cX5_undo : ByteArray := prog_1_method_18_code
def yX5_undo : MethodName := ⟨RX5, "undo", "()I"⟩
abbrev cX5_seed : ByteArray := prog_1_method_19_code
def yX5_seed : MethodName := ⟨RX5, "seed", "(I)I"⟩
abbrev cX5_ahead : ByteArray := prog_1_method_20_code
def yX5_ahead : MethodName := ⟨RX5, "ahead", "(II)I"⟩
abbrev cX5_then : ByteArray := prog_1_method_21_code
def yX5_then : MethodName := ⟨RX5, "then", "(III)I"⟩
abbrev cX5_back : ByteArray := prog_1_method_22_code
def yX5_back : MethodName := ⟨RX5, "back", "(I)I"⟩
abbrev cX5_been : ByteArray := prog_1_method_23_code
def yX5_been : MethodName := ⟨RX5, "been", "(I)I"⟩
abbrev cX5_shortest : ByteArray := prog_1_method_24_code
def yX5_shortest : MethodName := ⟨RX5, "shortest", "(II)I"⟩
abbrev cX5_sorts : ByteArray := prog_1_method_25_code
def yX5_sorts : MethodName := ⟨RX5, "sorts", "()I"⟩
abbrev cX5_apart : ByteArray := prog_1_method_26_code
def yX5_apart : MethodName := ⟨RX5, "apart", "(III)I"⟩
abbrev cX5_chance : ByteArray := prog_1_method_27_code
def yX5_chance : MethodName := ⟨RX5, "chance", "(IIII)I"⟩
abbrev cX5_image : ByteArray := prog_1_method_28_code
def yX5_image : MethodName := ⟨RX5, "image", "()I"⟩
abbrev cX5_restore : ByteArray := prog_1_method_29_code
def yX5_restore : MethodName := ⟨RX5, "restore", "()I"⟩
abbrev cX5_counts : ByteArray := prog_1_method_30_code
def yX5_counts : MethodName := ⟨RX5, "counts", "(IIIIII)I"⟩
abbrev cX5_steps : ByteArray := prog_1_method_31_code
def yX5_steps : MethodName := ⟨RX5, "steps", "(IIIIIII)I"⟩
abbrev cX5_film : ByteArray := prog_1_method_32_code
def yX5_film : MethodName := ⟨RX5, "film", "(IIIII)I"⟩
abbrev cX5_sheet : ByteArray := prog_1_method_33_code
def yX5_sheet : MethodName := ⟨RX5, "sheet", "(III)I"⟩
abbrev cX5_drop : ByteArray := prog_1_method_34_code
def yX5_drop : MethodName := ⟨RX5, "drop", "(I)I"⟩
abbrev cX5_item : ByteArray := prog_1_method_35_code
def yX5_item : MethodName := ⟨RX5, "item", "(IIIJ)I"⟩
abbrev cX5_copy : ByteArray := prog_1_method_36_code
def yX5_copy : MethodName := ⟨RX5, "copy", "(IIIII)I"⟩
abbrev cX5_refusedBeats : ByteArray := prog_1_method_37_code
def yX5_refusedBeats : MethodName := ⟨RX5, "refusedBeats", "(I)I"⟩
abbrev cX5_roundsTillAllBack : ByteArray := prog_1_method_38_code
def yX5_roundsTillAllBack : MethodName := ⟨RX5, "roundsTillAllBack", "()I"⟩
abbrev cX5_countWays : ByteArray := prog_1_method_39_code
def yX5_countWays : MethodName := ⟨RX5, "countWays", "(II)V"⟩
abbrev cX5_countWaysOn : ByteArray := prog_1_method_40_code
def yX5_countWaysOn : MethodName := ⟨RX5, "countWaysOn", "()V"⟩
abbrev cX5_isSeenAsTold : ByteArray := prog_1_method_41_code
def yX5_isSeenAsTold : MethodName := ⟨RX5, "isSeenAsTold", "(IIIII)Z"⟩
abbrev cX5_goesAsTold : ByteArray := prog_1_method_42_code
def yX5_goesAsTold : MethodName := ⟨RX5, "goesAsTold", "(LPinAngels$Ring;IIII)Z"⟩
abbrev cX5_within : ByteArray := prog_1_method_43_code
def yX5_within : MethodName := ⟨RX5, "within", "(III)Z"⟩
abbrev cX5_isPlace : ByteArray := prog_1_method_44_code
def yX5_isPlace : MethodName := ⟨RX5, "isPlace", "(I)Z"⟩
abbrev cX5_isSheet : ByteArray := prog_1_method_45_code
def yX5_isSheet : MethodName := ⟨RX5, "isSheet", "(I)Z"⟩
abbrev cX5_isLane : ByteArray := prog_1_method_46_code
def yX5_isLane : MethodName := ⟨RX5, "isLane", "(I)Z"⟩
abbrev cX5_bitOf : ByteArray := prog_1_method_47_code
def yX5_bitOf : MethodName := ⟨RX5, "bitOf", "(I)I"⟩
abbrev cX5_leftBy8 : ByteArray := prog_1_method_48_code
def yX5_leftBy8 : MethodName := ⟨RX5, "leftBy8", "(I)I"⟩
abbrev cX5_holds : ByteArray := prog_1_method_49_code
def yX5_holds : MethodName := ⟨RX5, "holds", "(II)Z"⟩
abbrev cX5_greatestCommon : ByteArray := prog_1_method_50_code
def yX5_greatestCommon : MethodName := ⟨RX5, "greatestCommon", "(II)I"⟩
abbrev cX5_seenFrom : ByteArray := prog_1_method_51_code
def yX5_seenFrom : MethodName := ⟨RX5, "seenFrom", "(II)I"⟩
abbrev cX5_span : ByteArray := prog_1_method_52_code
def yX5_span : MethodName := ⟨RX5, "span", "(I)I"⟩
abbrev cX5_lead : ByteArray := prog_1_method_53_code
def yX5_lead : MethodName := ⟨RX5, "lead", "(III)I"⟩
def RX6 : String := "PinAngelsModel"
def TX6 : u_T := fun k => match k with
  | 0 => ("PinAngelsModel", "w", "[I", true)
  | 1 => ("PinAngelsModel", "isKept", "Z", false)
  | 2 => ("PinAngelsModel", "text", "[I", true)
  | 3 => ("PinAngelsModel", "texted", "I", false)
  | 4 => ("PinAngelsModel", "items", "[J", true)
  | 5 => ("PinAngelsModel", "sheetSize", "[I", true)
  | 6 => ("PinAngelsModel", "sheetLane", "[I", true)
  | 7 => ("PinAngelsModel", "order", "[I", true)
  | 8 => ("PinAngelsModel", "place", "I", false)
  | 9 => ("PinAngelsModel", "far", "[I", true)
  | 10 => ("PinAngelsModel", "queue", "[I", true)
  | 11 => ("PinAngelsModel", "left", "[I", true)
  | 12 => ("PinAngelsModel", "pairs", "[I", true)
  | 13 => ("PinAngelsModel", "ways", "[J", true)
  | 14 => ("PinAngelsModel", "waysThen", "[J", true)
  | _ => ("PinAngelsModel", "held", "[J", true)
def tyX6 : Nat → FieldType := fun k => match k with
  | 0 => .array .int
  | 1 => .boolean
  | 2 => .array .int
  | 3 => .int
  | 4 => .array .long
  | 5 => .array .int
  | 6 => .array .int
  | 7 => .array .int
  | 8 => .int
  | 9 => .array .int
  | 10 => .array .int
  | 11 => .array .int
  | 12 => .array .int
  | 13 => .array .long
  | 14 => .array .long
  | _ => .array .long
abbrev wsX60 : List Cond := u_ws RX6 TX6 16
theorem nmX6 : ∀ a, a < 16 → ∀ b, b < 16 → a ≠ b → (TX6 a).2.1 ≠ (TX6 b).2.1 := by decide +kernel
theorem tyX6_ok : ∀ k, k < 16 → parseFieldDescriptor (TX6 k).2.2.1 = some (tyX6 k) := by decide +kernel
abbrev cX6_init : ByteArray := prog_8_method_1_code
def yX6_init : MethodName := ⟨RX6, "<init>", "()V"⟩
abbrev cX6_in : ByteArray := prog_8_method_3_code
def yX6_in : MethodName := ⟨RX6, "in", "(JJJ)Z"⟩
abbrev cX6_has : ByteArray := prog_8_method_4_code
def yX6_has : MethodName := ⟨RX6, "has", "(II)Z"⟩
abbrev cX6_ones : ByteArray := prog_8_method_5_code
def yX6_ones : MethodName := ⟨RX6, "ones", "(I)I"⟩
abbrev cX6_bring : ByteArray := prog_8_method_6_code
def yX6_bring : MethodName := ⟨RX6, "bring", "(III)V"⟩
abbrev cX6_isPlace : ByteArray := prog_8_method_7_code
def yX6_isPlace : MethodName := ⟨RX6, "isPlace", "(I)Z"⟩
abbrev cX6_isAngel : ByteArray := prog_8_method_8_code
def yX6_isAngel : MethodName := ⟨RX6, "isAngel", "(I)Z"⟩
abbrev cX6_isFigure : ByteArray := prog_8_method_9_code
def yX6_isFigure : MethodName := ⟨RX6, "isFigure", "(I)Z"⟩
abbrev cX6_round : ByteArray := prog_8_method_10_code
def yX6_round : MethodName := ⟨RX6, "round", "(II)I"⟩
abbrev cX6_mirror : ByteArray := prog_8_method_11_code
def yX6_mirror : MethodName := ⟨RX6, "mirror", "(II)I"⟩
abbrev cX6_leadsBy : ByteArray := prog_8_method_12_code
def yX6_leadsBy : MethodName := ⟨RX6, "leadsBy", "(III)I"⟩
abbrev cX6_leadsOf : ByteArray := prog_8_method_13_code
def yX6_leadsOf : MethodName := ⟨RX6, "leadsOf", "(II)I"⟩
abbrev cX6_orderOf : ByteArray := prog_8_method_14_code
def yX6_orderOf : MethodName := ⟨RX6, "orderOf", "(I)I"⟩
abbrev cX6_keptBy : ByteArray := prog_8_method_15_code
def yX6_keptBy : MethodName := ⟨RX6, "keptBy", "(I)I"⟩
abbrev cX6_areAlike : ByteArray := prog_8_method_16_code
def yX6_areAlike : MethodName := ⟨RX6, "areAlike", "(II)Z"⟩
abbrev cX6_sameAs : ByteArray := prog_8_method_17_code
def yX6_sameAs : MethodName := ⟨RX6, "sameAs", "(I)I"⟩
abbrev cX6_taken : ByteArray := prog_8_method_18_code
def yX6_taken : MethodName := ⟨RX6, "taken", "()I"⟩
abbrev cX6_angel : ByteArray := prog_8_method_19_code
def yX6_angel : MethodName := ⟨RX6, "angel", "(I)I"⟩
abbrev cX6_figure : ByteArray := prog_8_method_20_code
def yX6_figure : MethodName := ⟨RX6, "figure", "(II)I"⟩
abbrev cX6_tune : ByteArray := prog_8_method_21_code
def yX6_tune : MethodName := ⟨RX6, "tune", "(I)I"⟩
abbrev cX6_hush : ByteArray := prog_8_method_22_code
def yX6_hush : MethodName := ⟨RX6, "hush", "()I"⟩
abbrev cX6_of : ByteArray := prog_8_method_23_code
def yX6_of : MethodName := ⟨RX6, "of", "(II)I"⟩
abbrev cX6_leads : ByteArray := prog_8_method_24_code
def yX6_leads : MethodName := ⟨RX6, "leads", "(II)I"⟩
abbrev cX6_at : ByteArray := prog_8_method_25_code
def yX6_at : MethodName := ⟨RX6, "at", "(I)I"⟩
abbrev cX6_seenOf : ByteArray := prog_8_method_26_code
def yX6_seenOf : MethodName := ⟨RX6, "seenOf", "(II)I"⟩
abbrev cX6_seen : ByteArray := prog_8_method_27_code
def yX6_seen : MethodName := ⟨RX6, "seen", "(I)I"⟩
abbrev cX6_type : ByteArray := prog_8_method_28_code
def yX6_type : MethodName := ⟨RX6, "type", "(I)I"⟩
abbrev cX6_peek : ByteArray := prog_8_method_29_code
def yX6_peek : MethodName := ⟨RX6, "peek", "()I"⟩
abbrev cX6_takes : ByteArray := prog_8_method_30_code
def yX6_takes : MethodName := ⟨RX6, "takes", "(I)Z"⟩
abbrev cX6_kindOf : ByteArray := prog_8_method_31_code
def yX6_kindOf : MethodName := ⟨RX6, "kindOf", "(I)I"⟩
abbrev cX6_takesPlaces : ByteArray := prog_8_method_32_code
def yX6_takesPlaces : MethodName := ⟨RX6, "takesPlaces", "()Z"⟩
abbrev cX6_takesFigure : ByteArray := prog_8_method_33_code
def yX6_takesFigure : MethodName := ⟨RX6, "takesFigure", "()Z"⟩
abbrev cX6_takesTune : ByteArray := prog_8_method_34_code
def yX6_takesTune : MethodName := ⟨RX6, "takesTune", "()Z"⟩
abbrev cX6_takesRing : ByteArray := prog_8_method_35_code
def yX6_takesRing : MethodName := ⟨RX6, "takesRing", "()Z"⟩
abbrev cX6_ring : ByteArray := prog_8_method_36_code
def yX6_ring : MethodName := ⟨RX6, "ring", "()I"⟩
abbrev cX6_goneOnes : ByteArray := prog_8_method_37_code
def yX6_goneOnes : MethodName := ⟨RX6, "goneOnes", "()I"⟩
abbrev cX6_count : ByteArray := prog_8_method_38_code
def yX6_count : MethodName := ⟨RX6, "count", "(I)I"⟩
abbrev cX6_minds : ByteArray := prog_8_method_39_code
def yX6_minds : MethodName := ⟨RX6, "minds", "()V"⟩
abbrev cX6_passes : ByteArray := prog_8_method_40_code
def yX6_passes : MethodName := ⟨RX6, "passes", "()V"⟩
abbrev cX6_blows : ByteArray := prog_8_method_41_code
def yX6_blows : MethodName := ⟨RX6, "blows", "(I)V"⟩
abbrev cX6_beats : ByteArray := prog_8_method_42_code
def yX6_beats : MethodName := ⟨RX6, "beats", "(I)I"⟩
abbrev cX6_draught : ByteArray := prog_8_method_43_code
def yX6_draught : MethodName := ⟨RX6, "draught", "(I)I"⟩
abbrev cX6_leave : ByteArray := prog_8_method_44_code
def yX6_leave : MethodName := ⟨RX6, "leave", "(I)I"⟩
abbrev cX6_come : ByteArray := prog_8_method_45_code
def yX6_come : MethodName := ⟨RX6, "come", "(II)I"⟩
abbrev cX6_drift : ByteArray := prog_8_method_46_code
def yX6_drift : MethodName := ⟨RX6, "drift", "(I)I"⟩
abbrev cX6_undo : ByteArray := prog_8_method_47_code
def yX6_undo : MethodName := ⟨RX6, "undo", "()I"⟩
abbrev cX6_seed : ByteArray := prog_8_method_48_code
def yX6_seed : MethodName := ⟨RX6, "seed", "(I)I"⟩
abbrev cX6_goesBy : ByteArray := prog_8_method_49_code
def yX6_goesBy : MethodName := ⟨RX6, "goesBy", "(II)I"⟩
abbrev cX6_ringOf : ByteArray := prog_8_method_50_code
def yX6_ringOf : MethodName := ⟨RX6, "ringOf", "(I)I"⟩
abbrev cX6_behind : ByteArray := prog_8_method_51_code
def yX6_behind : MethodName := ⟨RX6, "behind", "(II)I"⟩
abbrev cX6_isTime : ByteArray := prog_8_method_52_code
def yX6_isTime : MethodName := ⟨RX6, "isTime", "(I)Z"⟩
abbrev cX6_ahead : ByteArray := prog_8_method_53_code
def yX6_ahead : MethodName := ⟨RX6, "ahead", "(II)I"⟩
abbrev cX6_then : ByteArray := prog_8_method_54_code
def yX6_then : MethodName := ⟨RX6, "then", "(III)I"⟩
abbrev cX6_back : ByteArray := prog_8_method_55_code
def yX6_back : MethodName := ⟨RX6, "back", "(I)I"⟩
abbrev cX6_been : ByteArray := prog_8_method_56_code
def yX6_been : MethodName := ⟨RX6, "been", "(I)I"⟩
abbrev cX6_ledBy : ByteArray := prog_8_method_57_code
def yX6_ledBy : MethodName := ⟨RX6, "ledBy", "(II)I"⟩
abbrev cX6_laysFar : ByteArray := prog_8_method_58_code
def yX6_laysFar : MethodName := ⟨RX6, "laysFar", "(I)I"⟩
abbrev cX6_laysLeft : ByteArray := prog_8_method_59_code
def yX6_laysLeft : MethodName := ⟨RX6, "laysLeft", "(I)V"⟩
abbrev cX6_shortest : ByteArray := prog_8_method_60_code
def yX6_shortest : MethodName := ⟨RX6, "shortest", "(II)I"⟩
abbrev cX6_sorts : ByteArray := prog_8_method_61_code
def yX6_sorts : MethodName := ⟨RX6, "sorts", "()I"⟩
abbrev cX6_apartBy : ByteArray := prog_8_method_62_code
def yX6_apartBy : MethodName := ⟨RX6, "apartBy", "(II)I"⟩
abbrev cX6_apart : ByteArray := prog_8_method_63_code
def yX6_apart : MethodName := ⟨RX6, "apart", "(III)I"⟩
abbrev cX6_chance : ByteArray := prog_8_method_64_code
def yX6_chance : MethodName := ⟨RX6, "chance", "(IIII)I"⟩
abbrev cX6_image : ByteArray := prog_8_method_65_code
def yX6_image : MethodName := ⟨RX6, "image", "()I"⟩
abbrev cX6_restore : ByteArray := prog_8_method_66_code
def yX6_restore : MethodName := ⟨RX6, "restore", "()I"⟩
abbrev cX6_isSheet : ByteArray := prog_8_method_67_code
def yX6_isSheet : MethodName := ⟨RX6, "isSheet", "(I)Z"⟩
abbrev cX6_isLane : ByteArray := prog_8_method_68_code
def yX6_isLane : MethodName := ⟨RX6, "isLane", "(II)Z"⟩
abbrev cX6_against : ByteArray := prog_8_method_69_code
def yX6_against : MethodName := ⟨RX6, "against", "(IIII)I"⟩
abbrev cX6_lowest : ByteArray := prog_8_method_70_code
def yX6_lowest : MethodName := ⟨RX6, "lowest", "(IJ)J"⟩
abbrev cX6_counts : ByteArray := prog_8_method_71_code
def yX6_counts : MethodName := ⟨RX6, "counts", "(IIIIII)I"⟩
abbrev cX6_steps : ByteArray := prog_8_method_72_code
def yX6_steps : MethodName := ⟨RX6, "steps", "(IIIIIII)I"⟩
abbrev cX6_film : ByteArray := prog_8_method_73_code
def yX6_film : MethodName := ⟨RX6, "film", "(IIIII)I"⟩
abbrev cX6_sheet : ByteArray := prog_8_method_74_code
def yX6_sheet : MethodName := ⟨RX6, "sheet", "(III)I"⟩
abbrev cX6_drop : ByteArray := prog_8_method_75_code
def yX6_drop : MethodName := ⟨RX6, "drop", "(I)I"⟩
abbrev cX6_item : ByteArray := prog_8_method_76_code
def yX6_item : MethodName := ⟨RX6, "item", "(IIIJ)I"⟩
abbrev cX6_copy : ByteArray := prog_8_method_77_code
def yX6_copy : MethodName := ⟨RX6, "copy", "(IIIII)I"⟩
def RJ6 : String := "java/lang/Integer"
abbrev cJ6_bitCount_0f7a4 : ByteArray := prog_9_method_49_code
def yJ6_bitCount_0f7a4 : MethodName := ⟨RJ6, "bitCount", "(I)I"⟩
def RJ9 : String := "java/lang/Math"
abbrev cJ9_max_7cf53 : ByteArray := prog_10_method_65_code
def yJ9_max_7cf53 : MethodName := ⟨RJ9, "max", "(II)I"⟩
abbrev cJ9_min_7cf53 : ByteArray := prog_10_method_69_code
def yJ9_min_7cf53 : MethodName := ⟨RJ9, "min", "(II)I"⟩
def RJ10 : String := "java/lang/System"
def RL : String := "PinAngelsLaw"
abbrev cL_law : ByteArray := code
def yL_law : MethodName := ⟨RL, "law", "([I)Z"⟩
abbrev vwCl : List vw_C := [(RX0, TX0, 5), (RX1, TX1, 11), (RX2, TX2, 5), (RX3, TX3, 3), (RX4, TX4, 3), (RX5, TX5, 9), (RX6, TX6, 16)]
end
section
/-! THE LAYER: a picture of the cells by numbers (zpic), a judgement over it (zW), a row an instruction -/
def tblG : List Cond := lw_tbl.filter goodWord
theorem tbl_mem {w : Cond} (h : w ∈ lw_tbl) (g : goodWord w = true) : w ∈ tblG := List.mem_filter.mpr ⟨h, g⟩
theorem tblG_good {w : Cond} (h : w ∈ tblG) : (w.onTables && w.keeps) = true ∨ ∃ ty, w = .arrayClass ty := good_of_word (List.mem_filter.mp h).2
theorem tblG_in {y : MethodName} {bytes : ByteArray} {maxL : Nat} {ret : Option FieldType} (h : Cond.code y bytes maxL ret ∈ tblG) : GoodIn tblG (Cond.code y bytes maxL ret :: tblG) := fun w hw => by
  rcases List.mem_cons.mp hw with rfl | hw
  · exact ⟨h, tblG_good h⟩
  · exact ⟨hw, tblG_good hw⟩
/-- the state: ints by cell and place, longs by cell and place -/
abbrev zS : Type := (Nat → Nat → Int32) × (Nat → Nat → Int64)
abbrev zF : Type := Option Nat
abbrev zD : Type := (Nat × List zF) ⊕ (Bool × Nat)
abbrev zG : Type := (Nat → Nat) × ClassId × ClassId × va_G
def zfl (ad : Nat → Nat) (u : zS) (c : Nat) : List zF → Nat → List Value
  | [], _ => []
  | some r :: t, i => .ref (ad r) :: zfl ad u c t (i + 1)
  | none :: t, i => .int (u.1 c i) :: zfl ad u c t (i + 1)
def zce (G : zG) (u : zS) (c : Nat) : zD → va_E
  | .inl (k, fs) => .inr (k, zfl G.1 u c fs 0)
  | .inr (false, n) => .inl (G.2.1, n, .inl (u.1 c))
  | .inr (true, n) => .inl (G.2.2.1, n, .inr (.inl (u.2 c)))
def zpc (G : zG) (u : zS) : List zD → Nat → va_W
  | [], _ => []
  | d :: t, c => (G.1 c, zce G u c d) :: zpc G u t (c + 1)
def zpic (ds : List zD) (G : zG) (u : zS) : va_W := zpc G u ds 0
def wI (u : zS) (c i : Nat) (v : Int32) : zS := (fun a j => if a = c then (if j = i then v else u.1 a j) else u.1 a j, u.2)
def wL (u : zS) (c i : Nat) (v : Int64) : zS := (u.1, fun a j => if a = c then (if j = i then v else u.2 a j) else u.2 a j)
def cpI (u : zS) (a sp b dp n : Nat) : zS := (fun c j => if c = b then va_cpy (u.1 a) (u.1 b) sp dp n j else u.1 c j, u.2)
def cpL (u : zS) (a sp b dp n : Nat) : zS := (u.1, fun c j => if c = b then va_cpy (u.2 a) (u.2 b) sp dp n j else u.2 c j)
theorem zfl_congr {ad : Nat → Nat} {u w : zS} {c : Nat} (h : w.1 c = u.1 c) : ∀ (fs : List zF) (i : Nat), zfl ad w c fs i = zfl ad u c fs i
  | [], _ => rfl
  | some r :: t, i => by simp only [zfl]; rw [zfl_congr h t]
  | none :: t, i => by simp only [zfl]; rw [zfl_congr h t, h]
theorem zce_congr {G : zG} {u w : zS} {c : Nat} (h1 : w.1 c = u.1 c) (h2 : w.2 c = u.2 c) (d : zD) : zce G w c d = zce G u c d := by
  match d with
  | .inl (k, fs) => simp only [zce]; rw [zfl_congr h1]
  | .inr (false, n) => simp only [zce]; rw [h1]
  | .inr (true, n) => simp only [zce]; rw [h2]
theorem zpc_get {G : zG} {u : zS} : ∀ (ds : List zD) (c k : Nat) (d : zD), ds[k]? = some d → (zpc G u ds c)[k]? = some (G.1 (c + k), zce G u (c + k) d)
  | [], _, _, _, h => by simp at h
  | e :: t, c, 0, d, h => by
    have : e = d := by simpa using h
    subst this
    rfl
  | e :: t, c, k + 1, d, h => by
    have h2 : t[k]? = some d := by simpa using h
    have := zpc_get (G := G) (u := u) t (c + 1) k d h2
    rw [show c + (k + 1) = c + 1 + k by omega]
    simpa [zpc] using this
theorem zpc_congr {G : zG} {u w : zS} : ∀ (ds : List zD) (c : Nat), (∀ a, c ≤ a → w.1 a = u.1 a ∧ w.2 a = u.2 a) → zpc G w ds c = zpc G u ds c
  | [], _, _ => rfl
  | d :: t, c, h => by
    simp only [zpc]
    rw [zce_congr (h c (Nat.le_refl c)).1 (h c (Nat.le_refl c)).2, zpc_congr t (c + 1) (fun a ha => h a (by omega))]
theorem zpc_set {G : zG} {u w : zS} {e : va_E} : ∀ (ds : List zD) (c k : Nat) (d : zD), ds[k]? = some d → (∀ a, a ≠ c + k → w.1 a = u.1 a ∧ w.2 a = u.2 a) → zce G w (c + k) d = e → (zpc G u ds c).set k (G.1 (c + k), e) = zpc G w ds c
  | [], _, _, _, h, _, _ => by simp at h
  | x :: t, c, 0, d, h, hn, he => by
    have : x = d := by simpa using h
    subst this
    simp only [zpc, List.set_cons_zero]
    rw [zpc_congr (u := u) (w := w) t (c + 1) (fun a ha => hn a (by omega))]
    rw [← he]
    rfl
  | x :: t, c, k + 1, d, h, hn, he => by
    have h2 : t[k]? = some d := by simpa using h
    have e1 : c + (k + 1) = c + 1 + k := by omega
    rw [e1] at hn he ⊢
    simp only [zpc, List.set_cons_succ]
    rw [zpc_set t (c + 1) k d h2 hn he, zce_congr (hn c (by omega)).1 (hn c (by omega)).2]
theorem zpic_get {ds : List zD} {G : zG} {u : zS} {c : Nat} {d : zD} (h : ds[c]? = some d) : (zpic ds G u)[c]? = some (G.1 c, zce G u c d) := by
  have := zpc_get (G := G) (u := u) ds 0 c d h
  rwa [Nat.zero_add] at this
theorem zpic_set {ds : List zD} {G : zG} {u w : zS} {e : va_E} {c : Nat} {d : zD} (h : ds[c]? = some d) (hn : ∀ a, a ≠ c → w.1 a = u.1 a ∧ w.2 a = u.2 a) (he : zce G w c d = e) : (zpic ds G u).set c (G.1 c, e) = zpic ds G w := by
  have := zpc_set (G := G) (u := u) (w := w) (e := e) ds 0 c d h (by rw [Nat.zero_add]; exact hn) (by rw [Nat.zero_add]; exact he)
  rwa [Nat.zero_add] at this
theorem zfl_int {ad : Nat → Nat} {u : zS} {c : Nat} : ∀ (fs : List zF) (i k : Nat), fs[k]? = some none → (zfl ad u c fs i)[k]? = some (.int (u.1 c (i + k)))
  | [], _, _, h => by simp at h
  | x :: t, i, 0, h => by
    have : x = none := by simpa using h
    subst this
    rfl
  | x :: t, i, k + 1, h => by
    have h2 : t[k]? = some none := by simpa using h
    have := zfl_int (ad := ad) (u := u) (c := c) t (i + 1) k h2
    rw [show i + (k + 1) = i + 1 + k by omega]
    cases x <;> simpa [zfl] using this
theorem zfl_ref {ad : Nat → Nat} {u : zS} {c r : Nat} : ∀ (fs : List zF) (i k : Nat), fs[k]? = some (some r) → (zfl ad u c fs i)[k]? = some (.ref (ad r))
  | [], _, _, h => by simp at h
  | x :: t, i, 0, h => by
    have : x = some r := by simpa using h
    subst this
    rfl
  | x :: t, i, k + 1, h => by
    have h2 : t[k]? = some (some r) := by simpa using h
    have := zfl_ref (ad := ad) (u := u) (c := c) t (i + 1) k h2
    cases x <;> simpa [zfl] using this
theorem zfl_len {ad : Nat → Nat} {u : zS} {c : Nat} : ∀ (fs : List zF) (i : Nat), (zfl ad u c fs i).length = fs.length
  | [], _ => rfl
  | x :: t, i => by cases x <;> simp [zfl, zfl_len t]
theorem wI_ne {u : zS} {c i a : Nat} {v : Int32} (h : a ≠ c) : (wI u c i v).1 a = u.1 a := by funext j; simp [wI, h]
theorem wI_at {u : zS} {c i : Nat} {v : Int32} : (wI u c i v).1 c = upd (u.1 c) i v := by funext j; simp [wI, upd]
theorem wL_ne {u : zS} {c i a : Nat} {v : Int64} (h : a ≠ c) : (wL u c i v).2 a = u.2 a := by funext j; simp [wL, h]
theorem wL_at {u : zS} {c i : Nat} {v : Int64} : (wL u c i v).2 c = vp_updL (u.2 c) i v := by funext j; simp [wL, vp_updL]
theorem zfl_lt {ad : Nat → Nat} {u : zS} {c k : Nat} {v : Int32} : ∀ (fs : List zF) (i : Nat), k < i → zfl ad (wI u c k v) c fs i = zfl ad u c fs i
  | [], _, _ => rfl
  | some r :: t, i, h => by simp only [zfl]; rw [zfl_lt t (i + 1) (by omega)]
  | none :: t, i, h => by
    simp only [zfl]
    rw [zfl_lt t (i + 1) (by omega), show (wI u c k v).1 c i = u.1 c i by simp [wI, show i ≠ k by omega]]
theorem zfl_set {ad : Nat → Nat} {u : zS} {c : Nat} {v : Int32} : ∀ (fs : List zF) (i k : Nat), fs[k]? = some none → (zfl ad u c fs i).set k (.int v) = zfl ad (wI u c (i + k) v) c fs i
  | [], _, _, h => by simp at h
  | x :: t, i, 0, h => by
    have : x = none := by simpa using h
    subst this
    simp only [zfl, List.set_cons_zero, Nat.add_zero]
    rw [zfl_lt t (i + 1) (by omega), show (wI u c i v).1 c i = v by simp [wI]]
  | x :: t, i, k + 1, h => by
    have h2 : t[k]? = some none := by simpa using h
    have e := zfl_set (ad := ad) (u := u) (c := c) (v := v) t (i + 1) k h2
    rw [show i + (k + 1) = i + 1 + k by omega]
    cases x with
    | none =>
      simp only [zfl, List.set_cons_succ]
      rw [e, show (wI u c (i + 1 + k) v).1 c i = u.1 c i by simp [wI, show i ≠ i + 1 + k by omega]]
    | some r => simp only [zfl, List.set_cons_succ]; rw [e]
/-- the calls between nest mates that the class makes -/
def zNst : List Cond := [.methodLinkNest RX1 67 yX5_lead RX5, .methodLinkNest RX1 71 yX5_bitOf RX5, .methodLinkNest RX1 75 yX5_holds RX5, .methodLinkNest RX1 86 yX5_greatestCommon RX5, .methodLinkNest RX1 95 yX5_leftBy8 RX5, .methodLinkNest RX2 41 yX5_span RX5]
theorem zNst_in : ∀ w ∈ zNst, w ∈ lw_tbl := by decide +kernel
theorem zNst_warm {s U : State} (hW : s.WarmedH U.vm) (h : ∀ w ∈ zNst, va_Nw w s) : ∀ w ∈ zNst, va_Nw w U := by
  intro w hw
  have h0 := h w hw
  simp only [zNst, List.mem_cons, List.not_mem_nil, or_false] at hw
  rcases hw with rfl | rfl | rfl | rfl | rfl | rfl <;> exact va_Nw.warmM hW h0
theorem zNst_same {s U : State} (hW : s.vm = U.vm) (h : ∀ w ∈ zNst, va_Nw w s) : ∀ w ∈ zNst, va_Nw w U := by
  intro w hw
  have h0 := h w hw
  simp only [zNst, List.mem_cons, List.not_mem_nil, or_false] at hw
  rcases hw with rfl | rfl | rfl | rfl | rfl | rfl <;> exact va_Nw.same rfl hW h0
/-- what is fixed over a method's walk -/
abbrev zX : Type := (Program × Env × State) × (MethodId × Array Value × List Frame × Method × Code) × (Nat → Prop)
abbrev zty (G : zG) : List (ClassId × FieldType) := [(G.2.1, .int), (G.2.2.1, .long)]
def zC (G : zG) (X : zX) (cc : ByteArray) (nL : Nat) (own : String) (ret : Option FieldType) : Prop :=
  X.1.1.tables.exec = Jvm.exec ∧ X.2.1.2.2.2.2.code = cc ∧ X.2.1.2.2.2.2.maxLocals = nL ∧ X.1.2.2.vm.findClass own = some X.2.1.1.cls ∧ (∀ w ∈ tblG, w.before X.2.1.2.1 X.1.2.2 = true) ∧ va_K G.2.2.2 vwCl (zty G) X.1.2.2 ∧ (∀ q, X.1.2.2.heap.size ≤ q → X.2.2 q) ∧ X.2.1.2.2.2.1.sig.returnType = ret ∧ X.2.1.2.2.2.1.locks = false ∧ (∀ w ∈ zNst, va_Nw w X.1.2.2)
def zWd (ds : List zD) (G : zG) (A : Nat → Prop) (u : zS) (t : State) : Prop := va_P G.2.2.2 vwCl (zpic ds G u) t.heap ∧ va_K G.2.2.2 vwCl (zty G) t ∧ va_D A (zpic ds G u)
def zQc (ds : List zD) (G : zG) (A : Nat → Prop) (K : Option Value → zS → Prop) : Array Value → State → Outcome → State → Prop := fun _ st oc t => (∃ (v : Option Value) (u : zS), oc = .returned v ∧ K v u ∧ zWd ds G A u t) ∧ va_F A st t
def zW (ds : List zD) (l : Launch) (R : Room) (G : zG) (X : zX) (K : Option Value → zS → Prop) (u : zS) (pc : Nat) (lv : List (Nat × Value)) (st : List Value) : Prop :=
  ∀ (H : Heap) (locs : List Loc) (ls : Array Slot), va_P G.2.2.2 vwCl (zpic ds G u) H → va_D X.2.2 (zpic ds G u) → va_S X.2.2 X.1.2.2.heap H locs → lv_has ls X.2.1.2.2.2.2.maxLocals lv →
    W X.1.1 l X.1.2.1 R X.1.2.2 X.2.1.1 X.2.1.2.1 X.2.1.2.2.1 X.2.1.2.2.2.1 X.2.1.2.2.2.2 H locs 0 0 (MQ X.2.1.2.2.1 (zQc ds G X.2.2 K) X.2.1.2.1 X.1.2.2 0 0 X.2.2) (F0 X.2.1.1 pc ls st)
def zPre (ds : List zD) (G : zG) (u : zS) (sz : Nat) (U : State) : Prop := U.heap.size = sz ∧ va_P G.2.2.2 vwCl (zpic ds G u) U.heap ∧ va_K G.2.2.2 vwCl (zty G) U ∧ va_D (fun _ => True) (zpic ds G u) ∧ ∀ w ∈ zNst, va_Nw w U
/-- a method's contract: from the picture of u, with these arguments, it answers v and leaves the picture of w -/
def zM (l : Launch) (ds : List zD) (y : MethodName) (bytes : ByteArray) (maxL : Nat) (ret : Option FieldType) (rm : Room) (G : zG) (av : List Value) (u : zS) (v : Option Value) (w : zS) : Prop :=
  ∀ sz : Nat, Met l y (Cond.code y bytes maxL ret :: tblG) rm (va_Pc av (zPre ds G u sz)) (zQc ds G (va_A (zpic ds G u) sz) (fun v2 w2 => v2 = v ∧ w2 = w)) 0 0 (va_A (zpic ds G u) sz)
theorem zM.of {l : Launch} {ds : List zD} {y : MethodName} {bytes : ByteArray} {maxL : Nat} {ret : Option FieldType} {rm : Room} {G : zG} {av : List Value} {u : zS} {v : Option Value} {w : zS} (hy : plainName y.cls = true) (hn : (lg_sl av).length ≤ maxL)
    (body : ∀ X : zX, zC G X bytes maxL y.cls ret → zW ds l rm G X (fun v2 w2 => v2 = v ∧ w2 = w) u 0 (lv_args 0 av) []) : zM l ds y bytes maxL ret rm G av u v w := by
  intro sz
  refine Met.ofW (cc := bytes) (maxL := maxL) (ret := ret) hy rfl ?_
  intro p e s m args below meth c s₁ B hml hv
  obtain ⟨rfl, hsz, hP, hK, hD0, hN⟩ := hv
  subst hsz
  have hts := atoms_spec (ws := Cond.code y bytes maxL ret :: tblG) B.pre
  have hl := lv_entry av (n := maxL) hn
  rw [lg_entry_eq]
  exact body ((p, e, s), (m, av.toArray, below, meth, c), va_A (zpic ds G u) s.heap.size) ⟨B.exec, B.bytes, hml, findClass_of_methodNamed B.named, fun w hw => hts w (List.mem_cons_of_mem _ hw), hK, fun q h => Or.inr h, B.returns, B.notSynchronized, hN⟩ s.heap [] _ hP hD0.self va_S.rf (by rw [show (((p, e, s), (m, av.toArray, below, meth, c), va_A (zpic ds G u) s.heap.size) : zX).2.1.2.2.2.2.maxLocals = maxL from hml]; exact hl)
end
section
/-! ROWS: an instruction a row, over zW -/
section
variable {ds : List zD} {l : Launch} {R : Room} {G : zG} {X : zX} {K : Option Value → zS → Prop} {u : zS} {pc : Nat} {lv : List (Nat × Value)} {st : List Value} {cc : ByteArray} {nL : Nat} {own : String} {ret : Option FieldType}
theorem r_iconst (hC : zC G X cc nL own ret) {n : Int} {v : Int32} (hd : decode cc pc = .ok (.iconst n, 1)) (hv : Int32.ofInt n = v) (k : zW ds l R G X K u (pc + 1) lv (.int v :: st)) : zW ds l R G X K u pc lv (st) := fun H locs ls h1 h2 h3 h4 => lv_iconst hC.1 hC.2.1 hd hv (k H locs ls h1 h2 h3 h4)
theorem r_bipush (hC : zC G X cc nL own ret) {n : Int} {v : Int32} (hd : decode cc pc = .ok (.bipush n, 2)) (hv : (Int8.ofInt n).toInt32 = v) (k : zW ds l R G X K u (pc + 2) lv (.int v :: st)) : zW ds l R G X K u pc lv (st) := fun H locs ls h1 h2 h3 h4 => lv_bipush hC.1 hC.2.1 hd hv (k H locs ls h1 h2 h3 h4)
theorem r_sipush (hC : zC G X cc nL own ret) {n : Int} {v : Int32} (hd : decode cc pc = .ok (.sipush n, 3)) (hv : (Int16.ofInt n).toInt32 = v) (k : zW ds l R G X K u (pc + 3) lv (.int v :: st)) : zW ds l R G X K u pc lv (st) := fun H locs ls h1 h2 h3 h4 => lv_sipush hC.1 hC.2.1 hd hv (k H locs ls h1 h2 h3 h4)
theorem r_lconst (hC : zC G X cc nL own ret) {n : Fin 2} {v : Int64} (hd : decode cc pc = .ok (.lconst n, 1)) (hv : Int64.ofNat (n : Nat) = v) (k : zW ds l R G X K u (pc + 1) lv (.long v :: st)) : zW ds l R G X K u pc lv (st) := fun H locs ls h1 h2 h3 h4 => lv_lconst hC.1 hC.2.1 hd hv (k H locs ls h1 h2 h3 h4)
theorem r_iload_n (hC : zC G X cc nL own ret) {k : Fin 4} {x : Int32} (hd : decode cc pc = .ok (.iload_n k, 1)) (j : Nat) (hj : lv[j]? = some ((k : Nat), .int x)) (k : zW ds l R G X K u (pc + 1) lv (.int x :: st)) : zW ds l R G X K u pc lv (st) := fun H locs ls h1 h2 h3 h4 => lv_iload_n hC.1 hC.2.1 hd rfl (lv_at h4 j hj) (k H locs ls h1 h2 h3 h4)
theorem r_iload (hC : zC G X cc nL own ret) {i : Nat} {x : Int32} (hd : decode cc pc = .ok (.iload i, 2)) (j : Nat) (hj : lv[j]? = some (i, .int x)) (k : zW ds l R G X K u (pc + 2) lv (.int x :: st)) : zW ds l R G X K u pc lv (st) := fun H locs ls h1 h2 h3 h4 => lv_iload hC.1 hC.2.1 hd (lv_at h4 j hj) (k H locs ls h1 h2 h3 h4)
theorem r_lload_n (hC : zC G X cc nL own ret) {k : Fin 4} {x : Int64} (hd : decode cc pc = .ok (.lload_n k, 1)) (j : Nat) (hj : lv[j]? = some ((k : Nat), .long x)) (k : zW ds l R G X K u (pc + 1) lv (.long x :: st)) : zW ds l R G X K u pc lv (st) := fun H locs ls h1 h2 h3 h4 => lv_lload_n hC.1 hC.2.1 hd rfl (lv_at h4 j hj) (k H locs ls h1 h2 h3 h4)
theorem r_lload (hC : zC G X cc nL own ret) {i : Nat} {x : Int64} (hd : decode cc pc = .ok (.lload i, 2)) (j : Nat) (hj : lv[j]? = some (i, .long x)) (k : zW ds l R G X K u (pc + 2) lv (.long x :: st)) : zW ds l R G X K u pc lv (st) := fun H locs ls h1 h2 h3 h4 => lv_lload hC.1 hC.2.1 hd (lv_at h4 j hj) (k H locs ls h1 h2 h3 h4)
theorem r_aload_n (hC : zC G X cc nL own ret) {k : Fin 4} {x : Nat} (hd : decode cc pc = .ok (.aload_n k, 1)) (j : Nat) (hj : lv[j]? = some ((k : Nat), .ref x)) (k : zW ds l R G X K u (pc + 1) lv (.ref x :: st)) : zW ds l R G X K u pc lv (st) := fun H locs ls h1 h2 h3 h4 => lv_aload_n hC.1 hC.2.1 hd rfl (lv_at h4 j hj) (k H locs ls h1 h2 h3 h4)
theorem r_aload (hC : zC G X cc nL own ret) {i : Nat} {x : Nat} (hd : decode cc pc = .ok (.aload i, 2)) (j : Nat) (hj : lv[j]? = some (i, .ref x)) (k : zW ds l R G X K u (pc + 2) lv (.ref x :: st)) : zW ds l R G X K u pc lv (st) := fun H locs ls h1 h2 h3 h4 => lv_aload hC.1 hC.2.1 hd (lv_at h4 j hj) (k H locs ls h1 h2 h3 h4)
theorem r_istore_n (hC : zC G X cc nL own ret) {k : Fin 4} {i : Nat} {x : Int32} {lv' : List (Nat × Value)} (hd : decode cc pc = .ok (.istore_n k, 1)) (hi : (k : Nat) = i) (hn : i < nL) (hl : (i, Value.int x) :: lv.filter (fun q => !(q.1 == i) && !(q.1 + 1 == i && q.2.category == 2)) = lv') (kk : zW ds l R G X K u (pc + 1) lv' st) : zW ds l R G X K u pc lv (Value.int x :: st) := fun H locs ls h1 h2 h3 h4 => lv_istore_n hC.1 hC.2.1 hd hi h4 (by rw [hC.2.2.1]; exact hn) hl (fun ls' h => kk H locs ls' h1 h2 h3 h)
theorem r_istore (hC : zC G X cc nL own ret) {i : Nat} {x : Int32} {lv' : List (Nat × Value)} (hd : decode cc pc = .ok (.istore i, 2)) (hn : i < nL) (hl : (i, Value.int x) :: lv.filter (fun q => !(q.1 == i) && !(q.1 + 1 == i && q.2.category == 2)) = lv') (kk : zW ds l R G X K u (pc + 2) lv' st) : zW ds l R G X K u pc lv (Value.int x :: st) := fun H locs ls h1 h2 h3 h4 => lv_istore hC.1 hC.2.1 hd h4 (by rw [hC.2.2.1]; exact hn) hl (fun ls' h => kk H locs ls' h1 h2 h3 h)
theorem r_lstore_n (hC : zC G X cc nL own ret) {k : Fin 4} {i : Nat} {x : Int64} {lv' : List (Nat × Value)} (hd : decode cc pc = .ok (.lstore_n k, 1)) (hi : (k : Nat) = i) (hn : i + 1 < nL) (hl : (i, Value.long x) :: lv.filter (fun q => !(q.1 == i) && (!(q.1 == i + 1) && !(q.1 + 1 == i && q.2.category == 2))) = lv') (kk : zW ds l R G X K u (pc + 1) lv' st) : zW ds l R G X K u pc lv (Value.long x :: st) := fun H locs ls h1 h2 h3 h4 => lv_lstore_n hC.1 hC.2.1 hd hi h4 (by rw [hC.2.2.1]; exact hn) hl (fun ls' h => kk H locs ls' h1 h2 h3 h)
theorem r_lstore (hC : zC G X cc nL own ret) {i : Nat} {x : Int64} {lv' : List (Nat × Value)} (hd : decode cc pc = .ok (.lstore i, 2)) (hn : i + 1 < nL) (hl : (i, Value.long x) :: lv.filter (fun q => !(q.1 == i) && (!(q.1 == i + 1) && !(q.1 + 1 == i && q.2.category == 2))) = lv') (kk : zW ds l R G X K u (pc + 2) lv' st) : zW ds l R G X K u pc lv (Value.long x :: st) := fun H locs ls h1 h2 h3 h4 => lv_lstore hC.1 hC.2.1 hd h4 (by rw [hC.2.2.1]; exact hn) hl (fun ls' h => kk H locs ls' h1 h2 h3 h)
theorem r_iinc (hC : zC G X cc nL own ret) {i : Nat} {n : Int} {x v : Int32} {lv' : List (Nat × Value)} (hd : decode cc pc = .ok (.iinc i n, 3)) (j : Nat) (hj : lv[j]? = some (i, .int x)) (hv : Int32.ofInt n = v) (hn : i < nL) (hl : (i, Value.int (x + v)) :: lv.filter (fun q => !(q.1 == i) && !(q.1 + 1 == i && q.2.category == 2)) = lv') (kk : zW ds l R G X K u (pc + 3) lv' st) : zW ds l R G X K u pc lv st := fun H locs ls h1 h2 h3 h4 => lv_iinc hC.1 hC.2.1 hd h4 hj (by rw [hv]) (by rw [hC.2.2.1]; exact hn) hl (fun ls' h => kk H locs ls' h1 h2 h3 h)
theorem r_iadd (hC : zC G X cc nL own ret) {x y : Int32} (hd : decode cc pc = .ok (.iadd, 1))  (k : zW ds l R G X K u (pc + 1) lv (.int (x + y) :: st)) : zW ds l R G X K u pc lv (.int y :: .int x :: st) := fun H locs ls h1 h2 h3 h4 => lv_iadd hC.1 hC.2.1 hd  (k H locs ls h1 h2 h3 h4)
theorem r_isub (hC : zC G X cc nL own ret) {x y : Int32} (hd : decode cc pc = .ok (.isub, 1))  (k : zW ds l R G X K u (pc + 1) lv (.int (x - y) :: st)) : zW ds l R G X K u pc lv (.int y :: .int x :: st) := fun H locs ls h1 h2 h3 h4 => lv_isub hC.1 hC.2.1 hd  (k H locs ls h1 h2 h3 h4)
theorem r_imul (hC : zC G X cc nL own ret) {x y : Int32} (hd : decode cc pc = .ok (.imul, 1))  (k : zW ds l R G X K u (pc + 1) lv (.int (x * y) :: st)) : zW ds l R G X K u pc lv (.int y :: .int x :: st) := fun H locs ls h1 h2 h3 h4 => lv_imul hC.1 hC.2.1 hd  (k H locs ls h1 h2 h3 h4)
theorem r_iand (hC : zC G X cc nL own ret) {x y : Int32} (hd : decode cc pc = .ok (.iand, 1))  (k : zW ds l R G X K u (pc + 1) lv (.int (x &&& y) :: st)) : zW ds l R G X K u pc lv (.int y :: .int x :: st) := fun H locs ls h1 h2 h3 h4 => lv_iand hC.1 hC.2.1 hd  (k H locs ls h1 h2 h3 h4)
theorem r_ior (hC : zC G X cc nL own ret) {x y : Int32} (hd : decode cc pc = .ok (.ior, 1))  (k : zW ds l R G X K u (pc + 1) lv (.int (x ||| y) :: st)) : zW ds l R G X K u pc lv (.int y :: .int x :: st) := fun H locs ls h1 h2 h3 h4 => lv_ior hC.1 hC.2.1 hd  (k H locs ls h1 h2 h3 h4)
theorem r_ixor (hC : zC G X cc nL own ret) {x y : Int32} (hd : decode cc pc = .ok (.ixor, 1))  (k : zW ds l R G X K u (pc + 1) lv (.int (x ^^^ y) :: st)) : zW ds l R G X K u pc lv (.int y :: .int x :: st) := fun H locs ls h1 h2 h3 h4 => lv_ixor hC.1 hC.2.1 hd  (k H locs ls h1 h2 h3 h4)
theorem r_ishl (hC : zC G X cc nL own ret) {x y : Int32} (hd : decode cc pc = .ok (.ishl, 1))  (k : zW ds l R G X K u (pc + 1) lv (.int (x <<< (y &&& 31)) :: st)) : zW ds l R G X K u pc lv (.int y :: .int x :: st) := fun H locs ls h1 h2 h3 h4 => lv_ishl hC.1 hC.2.1 hd  (k H locs ls h1 h2 h3 h4)
theorem r_ishr (hC : zC G X cc nL own ret) {x y : Int32} (hd : decode cc pc = .ok (.ishr, 1))  (k : zW ds l R G X K u (pc + 1) lv (.int (x >>> (y &&& 31)) :: st)) : zW ds l R G X K u pc lv (.int y :: .int x :: st) := fun H locs ls h1 h2 h3 h4 => lv_ishr hC.1 hC.2.1 hd  (k H locs ls h1 h2 h3 h4)
theorem r_idiv (hC : zC G X cc nL own ret) {x y : Int32} (hd : decode cc pc = .ok (.idiv, 1)) (hne : ¬ y = 0) (k : zW ds l R G X K u (pc + 1) lv (.int (x / y) :: st)) : zW ds l R G X K u pc lv (.int y :: .int x :: st) := fun H locs ls h1 h2 h3 h4 => lv_idiv hC.1 hC.2.1 hd hne (k H locs ls h1 h2 h3 h4)
theorem r_irem (hC : zC G X cc nL own ret) {x y : Int32} (hd : decode cc pc = .ok (.irem, 1)) (hne : ¬ y = 0) (k : zW ds l R G X K u (pc + 1) lv (.int (x - x / y * y) :: st)) : zW ds l R G X K u pc lv (.int y :: .int x :: st) := fun H locs ls h1 h2 h3 h4 => lv_irem hC.1 hC.2.1 hd hne (k H locs ls h1 h2 h3 h4)
theorem r_iushr (hC : zC G X cc nL own ret) {x y : Int32} (hd : decode cc pc = .ok (.iushr, 1))  (k : zW ds l R G X K u (pc + 1) lv (.int ((x.toUInt32 >>> (y.toUInt32 &&& Int32.toUInt32 31)).toInt32) :: st)) : zW ds l R G X K u pc lv (.int y :: .int x :: st) := fun H locs ls h1 h2 h3 h4 => lv_iushr hC.1 hC.2.1 hd rfl (k H locs ls h1 h2 h3 h4)
theorem r_ladd (hC : zC G X cc nL own ret) {x y : Int64} (hd : decode cc pc = .ok (.ladd, 1))  (k : zW ds l R G X K u (pc + 1) lv (.long (x + y) :: st)) : zW ds l R G X K u pc lv (.long y :: .long x :: st) := fun H locs ls h1 h2 h3 h4 => lv_ladd hC.1 hC.2.1 hd  (k H locs ls h1 h2 h3 h4)
theorem r_lmul (hC : zC G X cc nL own ret) {x y : Int64} (hd : decode cc pc = .ok (.lmul, 1))  (k : zW ds l R G X K u (pc + 1) lv (.long (x * y) :: st)) : zW ds l R G X K u pc lv (.long y :: .long x :: st) := fun H locs ls h1 h2 h3 h4 => lv_lmul hC.1 hC.2.1 hd  (k H locs ls h1 h2 h3 h4)
theorem r_land (hC : zC G X cc nL own ret) {x y : Int64} (hd : decode cc pc = .ok (.land, 1))  (k : zW ds l R G X K u (pc + 1) lv (.long (x &&& y) :: st)) : zW ds l R G X K u pc lv (.long y :: .long x :: st) := fun H locs ls h1 h2 h3 h4 => lv_land hC.1 hC.2.1 hd  (k H locs ls h1 h2 h3 h4)
theorem r_lor (hC : zC G X cc nL own ret) {x y : Int64} (hd : decode cc pc = .ok (.lor, 1))  (k : zW ds l R G X K u (pc + 1) lv (.long (x ||| y) :: st)) : zW ds l R G X K u pc lv (.long y :: .long x :: st) := fun H locs ls h1 h2 h3 h4 => lv_lor hC.1 hC.2.1 hd  (k H locs ls h1 h2 h3 h4)
theorem r_ldiv (hC : zC G X cc nL own ret) {x y : Int64} (hd : decode cc pc = .ok (.ldiv, 1)) (hne : ¬ y = 0) (k : zW ds l R G X K u (pc + 1) lv (.long (x / y) :: st)) : zW ds l R G X K u pc lv (.long y :: .long x :: st) := fun H locs ls h1 h2 h3 h4 => lv_ldiv hC.1 hC.2.1 hd hne (k H locs ls h1 h2 h3 h4)
theorem r_lrem (hC : zC G X cc nL own ret) {x y : Int64} (hd : decode cc pc = .ok (.lrem, 1)) (hne : ¬ y = 0) (k : zW ds l R G X K u (pc + 1) lv (.long (x - x / y * y) :: st)) : zW ds l R G X K u pc lv (.long y :: .long x :: st) := fun H locs ls h1 h2 h3 h4 => lv_lrem hC.1 hC.2.1 hd hne (k H locs ls h1 h2 h3 h4)
theorem r_lshl (hC : zC G X cc nL own ret) {x : Int64} {y : Int32} (hd : decode cc pc = .ok (.lshl, 1))  (k : zW ds l R G X K u (pc + 1) lv (.long (x <<< (y.toInt64 &&& 63)) :: st)) : zW ds l R G X K u pc lv (.int y :: .long x :: st) := fun H locs ls h1 h2 h3 h4 => lv_lshl hC.1 hC.2.1 hd rfl (k H locs ls h1 h2 h3 h4)
theorem r_lcmp (hC : zC G X cc nL own ret) {x y : Int64} (hd : decode cc pc = .ok (.lcmp, 1))  (k : zW ds l R G X K u (pc + 1) lv (.int (lg_cmp x y) :: st)) : zW ds l R G X K u pc lv (.long y :: .long x :: st) := fun H locs ls h1 h2 h3 h4 => W.lcmp hC.1 hC.2.1 hd  (k H locs ls h1 h2 h3 h4)
theorem r_i2l (hC : zC G X cc nL own ret) {x : Int32} (hd : decode cc pc = .ok (.i2l, 1))  (k : zW ds l R G X K u (pc + 1) lv (.long x.toInt64 :: st)) : zW ds l R G X K u pc lv (.int x :: st) := fun H locs ls h1 h2 h3 h4 => lv_i2l hC.1 hC.2.1 hd rfl (k H locs ls h1 h2 h3 h4)
theorem r_l2i (hC : zC G X cc nL own ret) {x : Int64} (hd : decode cc pc = .ok (.l2i, 1))  (k : zW ds l R G X K u (pc + 1) lv (.int x.toInt32 :: st)) : zW ds l R G X K u pc lv (.long x :: st) := fun H locs ls h1 h2 h3 h4 => lv_l2i hC.1 hC.2.1 hd rfl (k H locs ls h1 h2 h3 h4)
theorem r_i2b (hC : zC G X cc nL own ret) {x : Int32} (hd : decode cc pc = .ok (.i2b, 1))  (k : zW ds l R G X K u (pc + 1) lv (.int x.toInt8.toInt32 :: st)) : zW ds l R G X K u pc lv (.int x :: st) := fun H locs ls h1 h2 h3 h4 => lv_i2b hC.1 hC.2.1 hd rfl (k H locs ls h1 h2 h3 h4)
theorem r_i2s (hC : zC G X cc nL own ret) {x : Int32} (hd : decode cc pc = .ok (.i2s, 1))  (k : zW ds l R G X K u (pc + 1) lv (.int x.toInt16.toInt32 :: st)) : zW ds l R G X K u pc lv (.int x :: st) := fun H locs ls h1 h2 h3 h4 => lv_i2s hC.1 hC.2.1 hd rfl (k H locs ls h1 h2 h3 h4)
theorem r_dup (hC : zC G X cc nL own ret) {va : Value} (hd : decode cc pc = .ok (.dup, 1)) (hv : va.category = 1) (k : zW ds l R G X K u (pc + 1) lv (va :: va :: st)) : zW ds l R G X K u pc lv (va :: st) := fun H locs ls h1 h2 h3 h4 => lv_dup hC.1 hC.2.1 hd hv (k H locs ls h1 h2 h3 h4)
theorem r_pop (hC : zC G X cc nL own ret) {va : Value} (hd : decode cc pc = .ok (.pop, 1)) (hv : va.category = 1) (k : zW ds l R G X K u (pc + 1) lv (st)) : zW ds l R G X K u pc lv (va :: st) := fun H locs ls h1 h2 h3 h4 => lv_pop hC.1 hC.2.1 hd hv (k H locs ls h1 h2 h3 h4)
theorem r_dup2 (hC : zC G X cc nL own ret) {va vb : Value} (hd : decode cc pc = .ok (.dup2, 1)) (hv : va.category = 1) (hw : vb.category = 1) (k : zW ds l R G X K u (pc + 1) lv (va :: vb :: va :: vb :: st)) : zW ds l R G X K u pc lv (va :: vb :: st) := fun H locs ls h1 h2 h3 h4 => lv_dup2_11 hC.1 hC.2.1 hd hv hw (k H locs ls h1 h2 h3 h4)
theorem r_goto (hC : zC G X cc nL own ret) {off : Int} {tgt : Nat} (hd : decode cc pc = .ok (.goto off, 3)) (ht : (pc : Int) + off = (tgt : Int)) (k : zW ds l R G X K u tgt lv st) : zW ds l R G X K u pc lv st := fun H locs ls h1 h2 h3 h4 => lv_goto hC.1 hC.2.1 hd ht (k H locs ls h1 h2 h3 h4)
theorem r_if_eq (hC : zC G X cc nL own ret) {x : Int32} {off : Int} {tgt : Nat} (hd : decode cc pc = .ok (.ifCond .eq off, 3)) (ht : (pc : Int) + off = (tgt : Int)) (kt : x = 0 → zW ds l R G X K u tgt lv st) (kf : ¬ x = 0 → zW ds l R G X K u (pc + 3) lv st) : zW ds l R G X K u pc lv (.int x :: st) := fun H locs ls h1 h2 h3 h4 => lv_if_eq hC.1 hC.2.1 hd ht (fun q => kt q H locs ls h1 h2 h3 h4) (fun q => kf q H locs ls h1 h2 h3 h4)
theorem r_if_ne (hC : zC G X cc nL own ret) {x : Int32} {off : Int} {tgt : Nat} (hd : decode cc pc = .ok (.ifCond .ne off, 3)) (ht : (pc : Int) + off = (tgt : Int)) (kt : ¬ x = 0 → zW ds l R G X K u tgt lv st) (kf : x = 0 → zW ds l R G X K u (pc + 3) lv st) : zW ds l R G X K u pc lv (.int x :: st) := fun H locs ls h1 h2 h3 h4 => lv_if_ne hC.1 hC.2.1 hd ht (fun q => kt q H locs ls h1 h2 h3 h4) (fun q => kf q H locs ls h1 h2 h3 h4)
theorem r_if_lt (hC : zC G X cc nL own ret) {x : Int32} {off : Int} {tgt : Nat} (hd : decode cc pc = .ok (.ifCond .lt off, 3)) (ht : (pc : Int) + off = (tgt : Int)) (kt : x < 0 → zW ds l R G X K u tgt lv st) (kf : ¬ x < 0 → zW ds l R G X K u (pc + 3) lv st) : zW ds l R G X K u pc lv (.int x :: st) := fun H locs ls h1 h2 h3 h4 => lv_if_lt hC.1 hC.2.1 hd ht (fun q => kt q H locs ls h1 h2 h3 h4) (fun q => kf q H locs ls h1 h2 h3 h4)
theorem r_if_ge (hC : zC G X cc nL own ret) {x : Int32} {off : Int} {tgt : Nat} (hd : decode cc pc = .ok (.ifCond .ge off, 3)) (ht : (pc : Int) + off = (tgt : Int)) (kt : 0 ≤ x → zW ds l R G X K u tgt lv st) (kf : ¬ 0 ≤ x → zW ds l R G X K u (pc + 3) lv st) : zW ds l R G X K u pc lv (.int x :: st) := fun H locs ls h1 h2 h3 h4 => lv_if_ge hC.1 hC.2.1 hd ht (fun q => kt q H locs ls h1 h2 h3 h4) (fun q => kf q H locs ls h1 h2 h3 h4)
theorem r_if_gt (hC : zC G X cc nL own ret) {x : Int32} {off : Int} {tgt : Nat} (hd : decode cc pc = .ok (.ifCond .gt off, 3)) (ht : (pc : Int) + off = (tgt : Int)) (kt : 0 < x → zW ds l R G X K u tgt lv st) (kf : ¬ 0 < x → zW ds l R G X K u (pc + 3) lv st) : zW ds l R G X K u pc lv (.int x :: st) := fun H locs ls h1 h2 h3 h4 => lv_if_gt hC.1 hC.2.1 hd ht (fun q => kt q H locs ls h1 h2 h3 h4) (fun q => kf q H locs ls h1 h2 h3 h4)
theorem r_if_le (hC : zC G X cc nL own ret) {x : Int32} {off : Int} {tgt : Nat} (hd : decode cc pc = .ok (.ifCond .le off, 3)) (ht : (pc : Int) + off = (tgt : Int)) (kt : x ≤ 0 → zW ds l R G X K u tgt lv st) (kf : ¬ x ≤ 0 → zW ds l R G X K u (pc + 3) lv st) : zW ds l R G X K u pc lv (.int x :: st) := fun H locs ls h1 h2 h3 h4 => lv_if_le hC.1 hC.2.1 hd ht (fun q => kt q H locs ls h1 h2 h3 h4) (fun q => kf q H locs ls h1 h2 h3 h4)
theorem r_icmp_eq (hC : zC G X cc nL own ret) {x y : Int32} {off : Int} {tgt : Nat} (hd : decode cc pc = .ok (.if_icmp .eq off, 3)) (ht : (pc : Int) + off = (tgt : Int)) (kt : x = y → zW ds l R G X K u tgt lv st) (kf : ¬ x = y → zW ds l R G X K u (pc + 3) lv st) : zW ds l R G X K u pc lv (.int y :: .int x :: st) := fun H locs ls h1 h2 h3 h4 => lv_icmp_eq hC.1 hC.2.1 hd ht (fun q => kt q H locs ls h1 h2 h3 h4) (fun q => kf q H locs ls h1 h2 h3 h4)
theorem r_icmp_ne (hC : zC G X cc nL own ret) {x y : Int32} {off : Int} {tgt : Nat} (hd : decode cc pc = .ok (.if_icmp .ne off, 3)) (ht : (pc : Int) + off = (tgt : Int)) (kt : ¬ x = y → zW ds l R G X K u tgt lv st) (kf : x = y → zW ds l R G X K u (pc + 3) lv st) : zW ds l R G X K u pc lv (.int y :: .int x :: st) := fun H locs ls h1 h2 h3 h4 => lv_icmp_ne hC.1 hC.2.1 hd ht (fun q => kt q H locs ls h1 h2 h3 h4) (fun q => kf q H locs ls h1 h2 h3 h4)
theorem r_icmp_lt (hC : zC G X cc nL own ret) {x y : Int32} {off : Int} {tgt : Nat} (hd : decode cc pc = .ok (.if_icmp .lt off, 3)) (ht : (pc : Int) + off = (tgt : Int)) (kt : x < y → zW ds l R G X K u tgt lv st) (kf : ¬ x < y → zW ds l R G X K u (pc + 3) lv st) : zW ds l R G X K u pc lv (.int y :: .int x :: st) := fun H locs ls h1 h2 h3 h4 => lv_icmp_lt hC.1 hC.2.1 hd ht (fun q => kt q H locs ls h1 h2 h3 h4) (fun q => kf q H locs ls h1 h2 h3 h4)
theorem r_icmp_ge (hC : zC G X cc nL own ret) {x y : Int32} {off : Int} {tgt : Nat} (hd : decode cc pc = .ok (.if_icmp .ge off, 3)) (ht : (pc : Int) + off = (tgt : Int)) (kt : y ≤ x → zW ds l R G X K u tgt lv st) (kf : ¬ y ≤ x → zW ds l R G X K u (pc + 3) lv st) : zW ds l R G X K u pc lv (.int y :: .int x :: st) := fun H locs ls h1 h2 h3 h4 => lv_icmp_ge hC.1 hC.2.1 hd ht (fun q => kt q H locs ls h1 h2 h3 h4) (fun q => kf q H locs ls h1 h2 h3 h4)
theorem r_icmp_gt (hC : zC G X cc nL own ret) {x y : Int32} {off : Int} {tgt : Nat} (hd : decode cc pc = .ok (.if_icmp .gt off, 3)) (ht : (pc : Int) + off = (tgt : Int)) (kt : y < x → zW ds l R G X K u tgt lv st) (kf : ¬ y < x → zW ds l R G X K u (pc + 3) lv st) : zW ds l R G X K u pc lv (.int y :: .int x :: st) := fun H locs ls h1 h2 h3 h4 => lv_icmp_gt hC.1 hC.2.1 hd ht (fun q => kt q H locs ls h1 h2 h3 h4) (fun q => kf q H locs ls h1 h2 h3 h4)
theorem r_icmp_le (hC : zC G X cc nL own ret) {x y : Int32} {off : Int} {tgt : Nat} (hd : decode cc pc = .ok (.if_icmp .le off, 3)) (ht : (pc : Int) + off = (tgt : Int)) (kt : x ≤ y → zW ds l R G X K u tgt lv st) (kf : ¬ x ≤ y → zW ds l R G X K u (pc + 3) lv st) : zW ds l R G X K u pc lv (.int y :: .int x :: st) := fun H locs ls h1 h2 h3 h4 => lv_icmp_le hC.1 hC.2.1 hd ht (fun q => kt q H locs ls h1 h2 h3 h4) (fun q => kf q H locs ls h1 h2 h3 h4)
theorem r_ldc (hC : zC G X cc nL own ret) {idx : Nat} {v : Int32} (hm : Cond.constant own idx v ∈ tblG) (hd : decode cc pc = .ok (.ldc idx, 2)) (k : zW ds l R G X K u (pc + 2) lv (.int v :: st)) : zW ds l R G X K u pc lv st := fun H locs ls h1 h2 h3 h4 => lv_ldc hC.1 hC.2.1 hC.2.2.2.1 (hC.2.2.2.2.1 _ hm) hd (k H locs ls h1 h2 h3 h4)
theorem r_ldcw (hC : zC G X cc nL own ret) {idx : Nat} {v : Int32} (hm : Cond.constant own idx v ∈ tblG) (hd : decode cc pc = .ok (.ldc_w idx, 3)) (k : zW ds l R G X K u (pc + 3) lv (.int v :: st)) : zW ds l R G X K u pc lv st := fun H locs ls h1 h2 h3 h4 => lv_ldcw hC.1 hC.2.1 hC.2.2.2.1 (hC.2.2.2.2.1 _ hm) hd (k H locs ls h1 h2 h3 h4)
theorem r_ldc2 (hC : zC G X cc nL own ret) {idx : Nat} {v : Int64} (hm : Cond.constantLong own idx v ∈ tblG) (hd : decode cc pc = .ok (.ldc2_w idx, 3)) (k : zW ds l R G X K u (pc + 3) lv (.long v :: st)) : zW ds l R G X K u pc lv st := fun H locs ls h1 h2 h3 h4 => lv_ldc2 hC.1 hC.2.1 hC.2.2.2.1 (hC.2.2.2.2.1 _ hm) hd (k H locs ls h1 h2 h3 h4)
theorem r_tsIn (hC : zC G X cc nL own ret) {dflt lo hi : Int} {offs : Array Int} {len : Nat} {x q : Int32} {off : Int} {tgt : Nat} (hd : decode cc pc = .ok (.tableswitch dflt lo hi offs, len)) (hq : x = q) (hh : ¬ q.toInt < lo ∧ ¬ hi < q.toInt ∧ offs[(q.toInt - lo).toNat]? = some off) (ht : (pc : Int) + off = (tgt : Int)) (k : zW ds l R G X K u tgt lv st) : zW ds l R G X K u pc lv (.int x :: st) := by
  subst hq
  exact fun H locs ls h1 h2 h3 h4 => lv_tableIn hC.1 hC.2.1 hd hh.1 hh.2.1 hh.2.2 ht (k H locs ls h1 h2 h3 h4)
theorem r_tsOut (hC : zC G X cc nL own ret) {dflt lo hi : Int} {offs : Array Int} {len : Nat} {x : Int32} {tgt : Nat} (hd : decode cc pc = .ok (.tableswitch dflt lo hi offs, len)) (hh : x.toInt < lo ∨ hi < x.toInt) (ht : (pc : Int) + dflt = (tgt : Int)) (k : zW ds l R G X K u tgt lv st) : zW ds l R G X K u pc lv (.int x :: st) := fun H locs ls h1 h2 h3 h4 => lv_tableOut hC.1 hC.2.1 hd hh ht (k H locs ls h1 h2 h3 h4)
theorem r_lsw (hC : zC G X cc nL own ret) {dflt : Int} {ps : Array (Int × Int)} {len : Nat} {x : Int32} {off : Int} {tgt : Nat} (hd : decode cc pc = .ok (.lookupswitch dflt ps, len)) (hp : (ps.toList.zip (ps.toList.drop 1)).all (fun (a, next) => a.1 < next.1) = true) (ho : Op.lookupswitch.offset ps.toList dflt x.toInt = off) (ht : (pc : Int) + off = (tgt : Int)) (k : zW ds l R G X K u tgt lv st) : zW ds l R G X K u pc lv (.int x :: st) := fun H locs ls h1 h2 h3 h4 => lv_lookup hC.1 hC.2.1 hd hp ho ht (k H locs ls h1 h2 h3 h4)
/-- the locals in another order, or fewer of them -/
theorem r_loc {lv' : List (Nat × Value)} (ks : List Nat) (hl : lv_pick lv ks = lv') (k : zW ds l R G X K u pc lv' st) : zW ds l R G X K u pc lv st := fun H locs ls h1 h2 h3 h4 => k H locs ls h1 h2 h3 (lv_sub h4 ks hl)
theorem r_iret (hC : zC G X cc nL own (some .int)) {v : Int32} (hd : decode cc pc = .ok (.ireturn, 1)) (hk : K (some (.int v)) u) : zW ds l R G X K u pc lv [.int v] := fun H locs ls h1 h2 h3 h4 =>
  W.iret hC.1 hC.2.1 hC.2.2.2.2.2.2.2.1 (fun t ht hW => ⟨⟨_, _, rfl, hk, by rw [ht]; exact h1, va_K.moved hW.alike hC.2.2.2.2.2.1, h2⟩, h3.F ht⟩) h3.2.2 hd hC.2.2.2.2.2.2.2.2.1
theorem r_zret (hC : zC G X cc nL own (some .boolean)) {v : Int32} (hn : narrow .boolean (.int v) = .int v) (hd : decode cc pc = .ok (.ireturn, 1)) (hk : K (some (.int v)) u) : zW ds l R G X K u pc lv [.int v] := fun H locs ls h1 h2 h3 h4 =>
  W.zret hC.1 hC.2.1 hC.2.2.2.2.2.2.2.1 hn (fun t ht hW => ⟨⟨_, _, rfl, hk, by rw [ht]; exact h1, va_K.moved hW.alike hC.2.2.2.2.2.1, h2⟩, h3.F ht⟩) h3.2.2 hd hC.2.2.2.2.2.2.2.2.1
theorem r_lret (hC : zC G X cc nL own (some .long)) {v : Int64} (hd : decode cc pc = .ok (.lreturn, 1)) (hk : K (some (.long v)) u) : zW ds l R G X K u pc lv [.long v] := fun H locs ls h1 h2 h3 h4 =>
  W.lret hC.1 hC.2.1 hC.2.2.2.2.2.2.2.1 (fun t ht hW => ⟨⟨_, _, rfl, hk, by rw [ht]; exact h1, va_K.moved hW.alike hC.2.2.2.2.2.1, h2⟩, h3.F ht⟩) h3.2.2 hd hC.2.2.2.2.2.2.2.2.1
theorem r_vret (hC : zC G X cc nL own none) (hd : decode cc pc = .ok (.return_, 1)) (hk : K none u) : zW ds l R G X K u pc lv [] := fun H locs ls h1 h2 h3 h4 =>
  W.vret hC.1 hC.2.1 hC.2.2.2.2.2.2.2.1 (fun t ht hW => ⟨⟨_, _, rfl, hk, by rw [ht]; exact h1, va_K.moved hW.alike hC.2.2.2.2.2.1, h2⟩, h3.F ht⟩) h3.2.2 hd hC.2.2.2.2.2.2.2.2.1
/-- a field as the tables have it, read -/
def zFd (own : String) (idx ci k : Nat) : Prop := ∃ (C : String) (T : u_T) (N : Nat), vwCl[ci]? = some (C, T, N) ∧ (∀ w ∈ u_ws C T N, w ∈ tblG) ∧ k < N ∧ Cond.fieldLink own idx (T k).1 (T k).2.1 (T k).2.2.1 ∈ tblG
/-- a field as the tables have it, written -/
def zFp (own : String) (idx ci k : Nat) (ty : FieldType) : Prop := ∃ (C : String) (T : u_T) (N : Nat) (ty0 : Nat → FieldType), vwCl[ci]? = some (C, T, N) ∧ (∀ w ∈ u_ws C T N, w ∈ tblG) ∧ k < N ∧ Cond.fieldLink own idx (T k).1 (T k).2.1 (T k).2.2.1 ∈ tblG ∧ (∀ k, k < N → parseFieldDescriptor (T k).2.2.1 = some (ty0 k)) ∧ (∀ a, a < N → ∀ b, b < N → a ≠ b → (T a).2.1 ≠ (T b).2.1) ∧ (T k).2.2.2 = false ∧ parseFieldDescriptor (T k).2.2.1 = some ty
theorem r_geti (hC : zC G X cc nL own ret) {c ci k idx : Nat} {fs : List zF} (hF : zFd own idx ci k) (hr : ds[c]? = some (.inl (ci, fs))) (hf : fs[k]? = some none) (hd : decode cc pc = .ok (.getfield idx, 3)) (kk : zW ds l R G X K u (pc + 3) lv (.int (u.1 c k) :: st)) : zW ds l R G X K u pc lv (.ref (G.1 c) :: st) := by
  obtain ⟨C, T, N, f1, f2, f3, f4⟩ := hF
  intro H locs ls h1 h2 h3 h4
  exact va_get hC.1 hC.2.1 hC.2.2.2.2.1 f2 hC.2.2.2.1 hC.2.2.2.2.2.1 h1 c (zpic_get hr) f1 k f3 (hC.2.2.2.2.1 _ f4) (fun _ h9 => h9) (by have := zfl_int (ad := G.1) (u := u) (c := c) fs 0 k hf; rwa [Nat.zero_add] at this) hd (kk H locs ls h1 h2 h3 h4)
theorem r_getr (hC : zC G X cc nL own ret) {c ci k idx r : Nat} {fs : List zF} (hF : zFd own idx ci k) (hr : ds[c]? = some (.inl (ci, fs))) (hf : fs[k]? = some (some r)) (hd : decode cc pc = .ok (.getfield idx, 3)) (kk : zW ds l R G X K u (pc + 3) lv (.ref (G.1 r) :: st)) : zW ds l R G X K u pc lv (.ref (G.1 c) :: st) := by
  obtain ⟨C, T, N, f1, f2, f3, f4⟩ := hF
  intro H locs ls h1 h2 h3 h4
  exact va_get hC.1 hC.2.1 hC.2.2.2.2.1 f2 hC.2.2.2.1 hC.2.2.2.2.2.1 h1 c (zpic_get hr) f1 k f3 (hC.2.2.2.2.1 _ f4) (fun _ h9 => h9) (zfl_ref (ad := G.1) (u := u) (c := c) fs 0 k hf) hd (kk H locs ls h1 h2 h3 h4)
theorem r_putz (hC : zC G X cc nL own ret) {c ci k idx : Nat} {fs : List zF} {v : Int32} {ty : FieldType} (hF : zFp own idx ci k ty) (hn : narrow ty (.int v) = .int v) (hfit : fits ty (.int v) = true) (hr : ds[c]? = some (.inl (ci, fs))) (hf : fs[k]? = some none) (hd : decode cc pc = .ok (.putfield idx, 3)) (kk : zW ds l R G X K (wI u c k v) (pc + 3) lv st) : zW ds l R G X K u pc lv (.int v :: .ref (G.1 c) :: st) := by
  obtain ⟨C, T, N, ty0, f1, f2, f3, f4, f5, f6, f7, f8⟩ := hF
  intro H locs ls h1 h2 h3 h4
  refine va_put hC.1 hC.2.1 hC.2.2.2.2.1 f2 ty0 f5 f6 hC.2.2.2.1 hC.2.2.2.2.2.1 h1 h2 h3 c (zpic_get hr) f1 k f3 (hC.2.2.2.2.1 _ f4) (fun _ h9 => h9) f7 f8 hn hfit (by rw [zfl_len]; exact (List.getElem?_eq_some_iff.mp hf).1) hd (fun H1 locs1 g1 g2 g3 => ?_)
  have hs := zfl_set (ad := G.1) (u := u) (c := c) (v := v) fs 0 k hf
  rw [Nat.zero_add] at hs
  have e : (zpic ds G u).set c (G.1 c, .inr (ci, (zfl G.1 u c fs 0).set k (.int v))) = zpic ds G (wI u c k v) := zpic_set hr (fun a ha => ⟨wI_ne ha, rfl⟩) (by simp only [zce]; rw [hs])
  rw [e] at g1 g2
  exact kk H1 locs1 ls g1 g2 g3 h4
theorem r_puti (hC : zC G X cc nL own ret) {c ci k idx : Nat} {fs : List zF} {v : Int32} (hF : zFp own idx ci k .int) (hr : ds[c]? = some (.inl (ci, fs))) (hf : fs[k]? = some none) (hd : decode cc pc = .ok (.putfield idx, 3)) (kk : zW ds l R G X K (wI u c k v) (pc + 3) lv st) : zW ds l R G X K u pc lv (.int v :: .ref (G.1 c) :: st) := r_putz hC hF rfl rfl hr hf hd kk
theorem r_iald (hC : zC G X cc nL own ret) {c n : Nat} {i : Int32} (hr : ds[c]? = some (.inr (false, n))) (hin : vp_in i n) (hd : decode cc pc = .ok (.iaload, 1)) (kk : zW ds l R G X K u (pc + 1) lv (.int (u.1 c i.toNatClampNeg) :: st)) : zW ds l R G X K u pc lv (.int i :: .ref (G.1 c) :: st) := fun H locs ls h1 h2 h3 h4 =>
  va_iald hC.1 hC.2.1 hC.2.2.2.2.2.1 h1 c 0 (zpic_get hr) rfl hin hd (kk H locs ls h1 h2 h3 h4)
theorem r_lald (hC : zC G X cc nL own ret) {c n : Nat} {i : Int32} (hr : ds[c]? = some (.inr (true, n))) (hin : vp_in i n) (hd : decode cc pc = .ok (.laload, 1)) (kk : zW ds l R G X K u (pc + 1) lv (.long (u.2 c i.toNatClampNeg) :: st)) : zW ds l R G X K u pc lv (.int i :: .ref (G.1 c) :: st) := fun H locs ls h1 h2 h3 h4 =>
  va_lald hC.1 hC.2.1 hC.2.2.2.2.2.1 h1 c 1 (zpic_get hr) rfl hin hd (kk H locs ls h1 h2 h3 h4)
theorem r_iast (hC : zC G X cc nL own ret) {c n : Nat} {i v : Int32} (hr : ds[c]? = some (.inr (false, n))) (hin : vp_in i n) (hd : decode cc pc = .ok (.iastore, 1)) (kk : zW ds l R G X K (wI u c i.toNatClampNeg v) (pc + 1) lv st) : zW ds l R G X K u pc lv (.int v :: .int i :: .ref (G.1 c) :: st) := by
  intro H locs ls h1 h2 h3 h4
  refine va_iast hC.1 hC.2.1 hC.2.2.2.2.2.1 h1 h2 h3 c 0 (zpic_get hr) rfl hin hd (fun H1 locs1 g1 g2 g3 => ?_)
  have e : (zpic ds G u).set c (G.1 c, .inl (G.2.1, n, .inl (upd (u.1 c) i.toNatClampNeg v))) = zpic ds G (wI u c i.toNatClampNeg v) := zpic_set hr (fun a ha => ⟨wI_ne ha, rfl⟩) (by simp only [zce]; rw [wI_at])
  rw [e] at g1 g2
  exact kk H1 locs1 ls g1 g2 g3 h4
theorem r_last (hC : zC G X cc nL own ret) {c n : Nat} {i : Int32} {v : Int64} (hr : ds[c]? = some (.inr (true, n))) (hin : vp_in i n) (hd : decode cc pc = .ok (.lastore, 1)) (kk : zW ds l R G X K (wL u c i.toNatClampNeg v) (pc + 1) lv st) : zW ds l R G X K u pc lv (.long v :: .int i :: .ref (G.1 c) :: st) := by
  intro H locs ls h1 h2 h3 h4
  refine va_last hC.1 hC.2.1 hC.2.2.2.2.2.1 h1 h2 h3 c 1 (zpic_get hr) rfl hin hd (fun H1 locs1 g1 g2 g3 => ?_)
  have e : (zpic ds G u).set c (G.1 c, .inl (G.2.2.1, n, .inr (.inl (vp_updL (u.2 c) i.toNatClampNeg v)))) = zpic ds G (wL u c i.toNatClampNeg v) := zpic_set hr (fun a ha => ⟨rfl, wL_ne ha⟩) (by simp only [zce]; rw [wL_at])
  first | rw [e] at g1 g2 | (rw [show ∀ f : Nat → Int64, (fun j => if j = i.toNatClampNeg then v else f j) = vp_updL f i.toNatClampNeg v from fun _ => rfl, e] at g1 g2)
  exact kk H1 locs1 ls g1 g2 g3 h4
def cpOk (sp dp n : Int32) (n0 n1 : Nat) : Prop := ¬ sp < 0 ∧ ¬ dp < 0 ∧ ¬ n < 0 ∧ sp.toNatClampNeg + n.toNatClampNeg ≤ n0 ∧ dp.toNatClampNeg + n.toNatClampNeg ≤ n1
def zAc (own : String) (idx : Nat) : Prop := Cond.methodLink own idx arraycopyName ∈ tblG ∧ Cond.native arraycopyName ∈ tblG ∧ Cond.static arraycopyName ∈ tblG ∧ Cond.initialized "java/lang/System" ∈ tblG
theorem r_cpi (hC : zC G X cc nL own ret) {a b n0 n1 idx : Nat} {sp dp n : Int32} (hL : zAc own idx) (hr0 : ds[a]? = some (.inr (false, n0))) (hr1 : ds[b]? = some (.inr (false, n1))) (ho : cpOk sp dp n n0 n1) (hR : 1 ≤ R.frames ∧ (st.map fun v => v.category).sum + 18 ≤ R.locals) (hd : decode cc pc = .ok (.invokestatic idx, 3)) (kk : zW ds l R G X K (cpI u a sp.toNatClampNeg b dp.toNatClampNeg n.toNatClampNeg) (pc + 3) lv st) : zW ds l R G X K u pc lv (.int n :: .int dp :: .ref (G.1 b) :: .int sp :: .ref (G.1 a) :: st) := by
  obtain ⟨k1, k2, k3, k4⟩ := hL
  obtain ⟨o1, o2, o3, o4, o5⟩ := ho
  intro H locs ls h1 h2 h3 h4
  refine va_copyi hC.1 hC.2.1 h4.1.symm hC.2.2.2.1 (hC.2.2.2.2.1 _ k1) (hC.2.2.2.2.1 _ k2) (hC.2.2.2.2.1 _ k3) (hC.2.2.2.2.1 _ k4) hC.2.2.2.2.2.1 h1 h2 h3 a b 0 0 (zpic_get hr0) (zpic_get hr1) rfl rfl rfl o1 o2 o3 o4 o5 (fun _ _ => rfl) hR.1 hR.2 hd (fun H1 locs1 g1 g2 g3 => ?_)
  have e : (zpic ds G u).set b (G.1 b, .inl (G.2.1, n1, .inl (va_cpy (u.1 a) (u.1 b) sp.toNatClampNeg dp.toNatClampNeg n.toNatClampNeg))) = zpic ds G (cpI u a sp.toNatClampNeg b dp.toNatClampNeg n.toNatClampNeg) := zpic_set hr1 (fun q hq => ⟨by funext j; simp [cpI, hq], rfl⟩) (by simp only [zce]; congr 4; funext j; simp [cpI])
  rw [e] at g1 g2
  exact kk H1 locs1 ls g1 g2 g3 h4
theorem r_cpl (hC : zC G X cc nL own ret) {a b n0 n1 idx : Nat} {sp dp n : Int32} (hL : zAc own idx) (hr0 : ds[a]? = some (.inr (true, n0))) (hr1 : ds[b]? = some (.inr (true, n1))) (ho : cpOk sp dp n n0 n1) (hR : 1 ≤ R.frames ∧ (st.map fun v => v.category).sum + 18 ≤ R.locals) (hd : decode cc pc = .ok (.invokestatic idx, 3)) (kk : zW ds l R G X K (cpL u a sp.toNatClampNeg b dp.toNatClampNeg n.toNatClampNeg) (pc + 3) lv st) : zW ds l R G X K u pc lv (.int n :: .int dp :: .ref (G.1 b) :: .int sp :: .ref (G.1 a) :: st) := by
  obtain ⟨k1, k2, k3, k4⟩ := hL
  obtain ⟨o1, o2, o3, o4, o5⟩ := ho
  intro H locs ls h1 h2 h3 h4
  refine va_copyl hC.1 hC.2.1 h4.1.symm hC.2.2.2.1 (hC.2.2.2.2.1 _ k1) (hC.2.2.2.2.1 _ k2) (hC.2.2.2.2.1 _ k3) (hC.2.2.2.2.1 _ k4) hC.2.2.2.2.2.1 h1 h2 h3 a b 1 1 (zpic_get hr0) (zpic_get hr1) rfl rfl rfl o1 o2 o3 o4 o5 (fun _ _ => rfl) hR.1 hR.2 hd (fun H1 locs1 g1 g2 g3 => ?_)
  have e : (zpic ds G u).set b (G.1 b, .inl (G.2.2.1, n1, .inr (.inl (va_cpy (u.2 a) (u.2 b) sp.toNatClampNeg dp.toNatClampNeg n.toNatClampNeg)))) = zpic ds G (cpL u a sp.toNatClampNeg b dp.toNatClampNeg n.toNatClampNeg) := zpic_set hr1 (fun q hq => ⟨rfl, by funext j; simp [cpL, hq]⟩) (by simp only [zce]; congr 5; funext j; simp [cpL])
  rw [e] at g1 g2
  exact kk H1 locs1 ls g1 g2 g3 h4
/-- a method as the tables have it -/
def zNm (y : MethodName) (n : Nat) : Prop := y.cls ≠ "java/lang/invoke/MethodHandle" ∧ y.cls ≠ "java/lang/invoke/VarHandle" ∧ (parseMethodDescriptor y.desc).map (fun d => d.parameters.length) = some n
def zYv (y : MethodName) (bytes : ByteArray) (maxL : Nat) (yr : Option FieldType) (n ci : Nat) : Prop := Cond.code y bytes maxL yr ∈ tblG ∧ Cond.instanceMethod y ∈ tblG ∧ Cond.selects y.cls y y ∈ tblG ∧ Cond.initialized y.cls ∈ tblG ∧ zNm y n ∧ (vwCl[ci]?).map (fun q => q.1) = some y.cls
def zYs (y : MethodName) (bytes : ByteArray) (maxL : Nat) (yr : Option FieldType) (n : Nat) : Prop := Cond.code y bytes maxL yr ∈ tblG ∧ Cond.static y ∈ tblG ∧ Cond.initialized y.cls ∈ tblG ∧ zNm y n
def zRm (rm R : Room) (maxL : Nat) : Prop := rm.frames + 1 ≤ R.frames ∧ 8 + (maxL + 11) + rm.locals ≤ R.locals ∧ rm.cells = 0 ∧ rm.slots = 0
theorem zPre_blind {av : List Value} {sz : Nat} {w : zS} : FrameBlind (va_Pc av (zPre ds G w sz)) := fun a U g mk q => by
  obtain ⟨q0, q1, qP, qK, qD, qN⟩ := q
  exact ⟨q0, q1, qP, va_K.moved (u := U) (U := U.calling g mk a) (Vm.Alike.refl U.vm) qK, qD, zNst_same (s := U) (U := U.calling g mk a) rfl qN⟩
theorem zPre_at (hC : zC G X cc nL own ret) {av : List Value} {H : Heap} (h1 : va_P G.2.2.2 vwCl (zpic ds G u) H) (h2 : va_D X.2.2 (zpic ds G u)) (U : State) (hU : U.heap = H) (hW : X.1.2.2.WarmedH U.vm) : va_Pc av (zPre ds G u H.size) av.toArray U := ⟨rfl, by rw [hU], by rw [hU]; exact h1, va_K.moved hW.alike hC.2.2.2.2.2.1, h2.weaken (fun _ _ _ _ => trivial), zNst_warm hW hC.2.2.2.2.2.2.2.2.2⟩
theorem z_after (hC : zC G X cc nL own ret) {H : Heap} {locs : List Loc} {ls : Array Slot} {w : zS} {v : Option Value} {rest st0 : List Value} {a : Array Value} (h2 : va_D X.2.2 (zpic ds G u)) (h3 : va_S X.2.2 X.1.2.2.heap H locs) (h4 : lv_has ls X.2.1.2.2.2.2.maxLocals lv)
    (run : va_Run X.1.1 l X.1.2.1 R X.1.2.2 X.2.1.1 X.2.1.2.1 X.2.1.2.2.1 X.2.1.2.2.2.1 X.2.1.2.2.2.2 H locs 0 0 0 0 (F0 X.2.1.1 pc ls st0) rest (zQc ds G (va_A (zpic ds G u) H.size) (fun v2 w2 => v2 = v ∧ w2 = w) a) (va_A (zpic ds G u) H.size))
    (kk : zW ds l R G X K w (pc + 3) lv (v.toList ++ rest)) :
    W X.1.1 l X.1.2.1 R X.1.2.2 X.2.1.1 X.2.1.2.1 X.2.1.2.2.1 X.2.1.2.2.2.1 X.2.1.2.2.2.2 H locs 0 0 (MQ X.2.1.2.2.1 (zQc ds G X.2.2 K) X.2.1.2.1 X.1.2.2 0 0 X.2.2) (F0 X.2.1.1 pc ls st0) := by
  have hF : ∀ q, va_A (zpic ds G u) H.size q → X.2.2 q := by
    intro q hq
    rcases hq with ⟨k, e, hk⟩ | hq
    · exact h2.2 k _ hk
    · exact hC.2.2.2.2.2.2.1 q (Nat.le_trans h3.1 hq)
  intro T hT XX
  obtain ⟨v', st₀, t, T', L, h0, X', hL, e1, e2, ⟨⟨v2, u2, hv, ⟨q1, q2⟩, hP', hK', hD'⟩, hz, hk⟩, stp⟩ := run T hT XX
  have hv' : v' = v := by
    have := Outcome.returned.inj hv
    rw [this, q1]
  subst hv'
  subst q2
  rw [h0] at hz hk
  have hS : va_S X.2.2 X.1.2.2.heap T'.heap (locs ++ L) := ⟨Nat.le_trans h3.1 (by rw [e1]; exact hz), fun q g1 g2 => by rw [e1, hk q (Nat.lt_of_lt_of_le g1 h3.1) (fun z => g2 (hF q z))]; exact h3.2.1 q g1 g2, fun q hq => by
      rcases List.mem_append.mp hq with h | h
      · exact h3.2.2 q h
      · exact hF _ (hL q h)⟩
  obtain ⟨t2, a1, b1⟩ := kk T'.heap (locs ++ L) ls (by rw [e1]; exact hP') (hD'.weaken (fun _ q _ h => hF q.1 h)) hS h4 T' rfl X'
  exact ⟨t2, stp t2 a1, b1⟩
theorem r_cv (hC : zC G X cc nL own ret) {y : MethodName} {bytes : ByteArray} {maxL n idx c ci : Nat} {yr : Option FieldType} {rm : Room} {As rest : List Value} {v : Option Value} {w : zS} {fs : List zF}
    (hM : zM l ds y bytes maxL yr rm G (.ref (G.1 c) :: As) u v w) (hY : zYv y bytes maxL yr n ci) (hL : Cond.methodLink own idx y ∈ tblG) (hr : ds[c]? = some (.inl (ci, fs))) (hR : zRm rm R maxL) (hn : As.length = n) (hst : st = As.reverse ++ .ref (G.1 c) :: rest) (hw : (rest.map fun v => v.category).sum ≤ 8) (hd : decode cc pc = .ok (.invokevirtual idx, 3)) (kk : zW ds l R G X K w (pc + 3) lv (v.toList ++ rest)) : zW ds l R G X K u pc lv st := by
  obtain ⟨y1, y2, y3, y4, y5, y6⟩ := hY
  obtain ⟨r1, r2, r3, r4⟩ := hR
  intro H locs ls h1 h2 h3 h4
  obtain ⟨q, hq1, hq2⟩ : ∃ q, vwCl[ci]? = some q ∧ q.1 = y.cls := by
    cases hq : vwCl[ci]? with
    | none => rw [hq] at y6; cases y6
    | some q => rw [hq] at y6; exact ⟨q, rfl, Option.some.inj y6⟩
  have hrecv := va_recv hC.2.2.2.2.2.1 h1 hq1 (zpic_get (G := G) (u := u) hr)
  rw [hq2] at hrecv
  refine z_after hC h2 h3 h4 (va_runV (C := y.cls) (As := As) (rest := rest) (cc := cc) (nL := nL) (own := own) (Ts := tblG) (bytes := bytes) (maxL := maxL) (ret := yr) (n := n) (index := idx) (b := G.1 c) ⟨hC.1, hC.2.1, hC.2.2.1, hC.2.2.2.1, hC.2.2.2.2.1⟩ (hM H.size) ⟨callB_of (ws' := tblG) n hC.2.2.2.2.1 (tblG_in y1) rfl r3 r4 (hC.2.2.2.2.1 _ y4) (hC.2.2.2.2.1 _ hL) y5 ⟨r1, r2⟩, hC.2.2.2.2.1 _ y2, hC.2.2.2.2.1 _ y3⟩ ⟨zPre_blind, hrecv, fun U hU hW => zPre_at hC h1 h2 U hU hW⟩ rfl hn (h4.1.trans hC.2.2.1) hst (lv_room hw) hd ⟨Nat.zero_le _, Nat.zero_le _⟩) kk
theorem r_cs (hC : zC G X cc nL own ret) {y : MethodName} {bytes : ByteArray} {maxL n idx : Nat} {yr : Option FieldType} {rm : Room} {As rest : List Value} {v : Option Value} {w : zS}
    (hM : zM l ds y bytes maxL yr rm G As u v w) (hY : zYs y bytes maxL yr n) (hL : Cond.methodLink own idx y ∈ tblG) (hR : zRm rm R maxL) (hn : As.length = n) (hst : st = As.reverse ++ rest) (hw : (rest.map fun v => v.category).sum ≤ 8) (hd : decode cc pc = .ok (.invokestatic idx, 3)) (kk : zW ds l R G X K w (pc + 3) lv (v.toList ++ rest)) : zW ds l R G X K u pc lv st := by
  obtain ⟨y1, y2, y3, y5⟩ := hY
  obtain ⟨r1, r2, r3, r4⟩ := hR
  intro H locs ls h1 h2 h3 h4
  refine z_after hC h2 h3 h4 (va_runS (As := As) (rest := rest) (cc := cc) (nL := nL) (own := own) (Ts := tblG) (bytes := bytes) (maxL := maxL) (ret := yr) (n := n) (index := idx) ⟨hC.1, hC.2.1, hC.2.2.1, hC.2.2.2.1, hC.2.2.2.2.1⟩ (hM H.size) ⟨callB_of (ws' := tblG) n hC.2.2.2.2.1 (tblG_in y1) rfl r3 r4 (hC.2.2.2.2.1 _ y3) (hC.2.2.2.2.1 _ hL) y5 ⟨r1, r2⟩, hC.2.2.2.2.1 _ y2⟩ ⟨zPre_blind, fun U hU hW => zPre_at hC h1 h2 U hU hW⟩ rfl hn (h4.1.trans hC.2.2.1) hst (lv_room hw) hd ⟨Nat.zero_le _, Nat.zero_le _⟩) kk
theorem r_csn (hC : zC G X cc nL own ret) {y : MethodName} {bytes : ByteArray} {maxL n idx : Nat} {yr : Option FieldType} {rm : Room} {As rest : List Value} {v : Option Value} {w : zS} {host : String}
    (hM : zM l ds y bytes maxL yr rm G As u v w) (hY : zYs y bytes maxL yr n) (hL : Cond.methodLinkNest own idx y host ∈ zNst) (hR : zRm rm R maxL) (hn : As.length = n) (hst : st = As.reverse ++ rest) (hw : (rest.map fun v => v.category).sum ≤ 8) (hd : decode cc pc = .ok (.invokestatic idx, 3)) (kk : zW ds l R G X K w (pc + 3) lv (v.toList ++ rest)) : zW ds l R G X K u pc lv st := by
  obtain ⟨y1, y2, y3, y5⟩ := hY
  obtain ⟨r1, r2, r3, r4⟩ := hR
  intro H locs ls h1 h2 h3 h4
  refine z_after hC h2 h3 h4 (va_runSN (As := As) (rest := rest) (cc := cc) (nL := nL) (own := own) (Ts := tblG) (bytes := bytes) (maxL := maxL) (ret := yr) (n := n) (index := idx) (host := host) ⟨hC.1, hC.2.1, hC.2.2.1, hC.2.2.2.1, hC.2.2.2.2.1⟩ (hM H.size) ⟨va_cnB (ws' := tblG) n hC.2.2.2.2.1 (tblG_in y1) rfl r3 r4 (hC.2.2.2.2.2.2.2.2.2 _ hL) (hC.2.2.2.2.1 _ y3) y5 ⟨r1, r2⟩, hC.2.2.2.2.1 _ y2, trivial⟩ ⟨zPre_blind, fun U hU hW => zPre_at hC h1 h2 U hU hW⟩ rfl hn (h4.1.trans hC.2.2.1) hst (lv_room hw) hd ⟨Nat.zero_le _, Nat.zero_le _⟩) kk
end
/-! Option: a guard, a bind -/
def og {α : Type} (c : Prop) [Decidable c] (x : Option α) : Option α := if c then x else none
def ob {α β : Type} (x : Option α) (f : α → Option β) : Option β := match x with
  | none => none
  | some a => f a
theorem og_some {α : Type} {c : Prop} [Decidable c] {x : Option α} {y : α} (h : og c x = some y) : c ∧ x = some y := by
  unfold og at h
  split at h
  · exact ⟨‹_›, h⟩
  · cases h
theorem ob_some {α β : Type} {x : Option α} {f : α → Option β} {y : β} (h : ob x f = some y) : ∃ a, x = some a ∧ f a = some y := by
  cases x with
  | none => cases h
  | some a => exact ⟨a, rfl, h⟩
end
