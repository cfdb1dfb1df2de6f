section
-- ===== PART A: goes FIRST, ahead of the names: the tables' words, and 'selects' of the private methods out of them =====
/-- a private method of a class that the tables say can be made, by its rows of tables_1 -/
def lw_okq (q : MethodName × Nat) : Prop := (q.1.cls ≠ "java/lang/invoke/MethodHandle" ∧ q.1.cls ≠ "java/lang/invoke/VarHandle") ∧ Cond.instantiable q.1.cls q.2 ∈ tables_1 ∧ Cond.privateMethod q.1 ∈ tables_1 ∧ Cond.instanceMethod q.1 ∈ tables_1
theorem lw_p0 : lw_okq (⟨"PinAngels$Tape", "readPlaces", "(LPinAngels$Ring;)Z"⟩, 3) := ⟨⟨by decide +kernel, by decide +kernel⟩, List.mem_of_getElem? (i := 99) (by decide +kernel), List.mem_of_getElem? (i := 329) (by decide +kernel), List.mem_of_getElem? (i := 330) (by decide +kernel)⟩
theorem lw_p1 : lw_okq (⟨"PinAngels$Tape", "takes", "(I)Z"⟩, 3) := ⟨⟨by decide +kernel, by decide +kernel⟩, List.mem_of_getElem? (i := 99) (by decide +kernel), List.mem_of_getElem? (i := 333) (by decide +kernel), List.mem_of_getElem? (i := 334) (by decide +kernel)⟩
theorem lw_p2 : lw_okq (⟨"PinAngels$Tape", "next", "()I"⟩, 3) := ⟨⟨by decide +kernel, by decide +kernel⟩, List.mem_of_getElem? (i := 99) (by decide +kernel), List.mem_of_getElem? (i := 337) (by decide +kernel), List.mem_of_getElem? (i := 338) (by decide +kernel)⟩
theorem lw_p3 : lw_okq (⟨"PinAngels$Tape", "readFigures", "(LPinAngels$Ring;)Z"⟩, 3) := ⟨⟨by decide +kernel, by decide +kernel⟩, List.mem_of_getElem? (i := 99) (by decide +kernel), List.mem_of_getElem? (i := 342) (by decide +kernel), List.mem_of_getElem? (i := 343) (by decide +kernel)⟩
theorem lw_p4 : lw_okq (⟨"PinAngels$Tape", "readFigure", "(LPinAngels$Ring;)Z"⟩, 3) := ⟨⟨by decide +kernel, by decide +kernel⟩, List.mem_of_getElem? (i := 99) (by decide +kernel), List.mem_of_getElem? (i := 346) (by decide +kernel), List.mem_of_getElem? (i := 347) (by decide +kernel)⟩
theorem lw_p5 : lw_okq (⟨"PinAngels$Tape", "takeDigit", "(I)I"⟩, 3) := ⟨⟨by decide +kernel, by decide +kernel⟩, List.mem_of_getElem? (i := 99) (by decide +kernel), List.mem_of_getElem? (i := 353) (by decide +kernel), List.mem_of_getElem? (i := 354) (by decide +kernel)⟩
theorem lw_p6 : lw_okq (⟨"PinAngels$Tape", "readTune", "(LPinAngels$Ring;)Z"⟩, 3) := ⟨⟨by decide +kernel, by decide +kernel⟩, List.mem_of_getElem? (i := 99) (by decide +kernel), List.mem_of_getElem? (i := 358) (by decide +kernel), List.mem_of_getElem? (i := 359) (by decide +kernel)⟩
theorem lw_p7 : lw_okq (⟨"PinAngels", "refusedBeats", "(I)I"⟩, 9) := ⟨⟨by decide +kernel, by decide +kernel⟩, List.mem_of_getElem? (i := 12) (by decide +kernel), List.mem_of_getElem? (i := 395) (by decide +kernel), List.mem_of_getElem? (i := 396) (by decide +kernel)⟩
theorem lw_p8 : lw_okq (⟨"PinAngels", "roundsTillAllBack", "()I"⟩, 9) := ⟨⟨by decide +kernel, by decide +kernel⟩, List.mem_of_getElem? (i := 12) (by decide +kernel), List.mem_of_getElem? (i := 482) (by decide +kernel), List.mem_of_getElem? (i := 483) (by decide +kernel)⟩
theorem lw_p9 : lw_okq (⟨"PinAngels$Search", "comeTo", "(III)V"⟩, 5) := ⟨⟨by decide +kernel, by decide +kernel⟩, List.mem_of_getElem? (i := 134) (by decide +kernel), List.mem_of_getElem? (i := 506) (by decide +kernel), List.mem_of_getElem? (i := 507) (by decide +kernel)⟩
theorem lw_p10 : lw_okq (⟨"PinAngels", "countWays", "(II)V"⟩, 9) := ⟨⟨by decide +kernel, by decide +kernel⟩, List.mem_of_getElem? (i := 12) (by decide +kernel), List.mem_of_getElem? (i := 538) (by decide +kernel), List.mem_of_getElem? (i := 539) (by decide +kernel)⟩
theorem lw_p11 : lw_okq (⟨"PinAngels", "countWaysOn", "()V"⟩, 9) := ⟨⟨by decide +kernel, by decide +kernel⟩, List.mem_of_getElem? (i := 12) (by decide +kernel), List.mem_of_getElem? (i := 542) (by decide +kernel), List.mem_of_getElem? (i := 543) (by decide +kernel)⟩
theorem lw_p12 : lw_okq (⟨"PinAngels", "isSeenAsTold", "(IIIII)Z"⟩, 9) := ⟨⟨by decide +kernel, by decide +kernel⟩, List.mem_of_getElem? (i := 12) (by decide +kernel), List.mem_of_getElem? (i := 576) (by decide +kernel), List.mem_of_getElem? (i := 577) (by decide +kernel)⟩
theorem lw_p13 : lw_okq (⟨"PinAngels", "goesAsTold", "(LPinAngels$Ring;IIII)Z"⟩, 9) := ⟨⟨by decide +kernel, by decide +kernel⟩, List.mem_of_getElem? (i := 12) (by decide +kernel), List.mem_of_getElem? (i := 593) (by decide +kernel), List.mem_of_getElem? (i := 594) (by decide +kernel)⟩
theorem lw_p14 : lw_okq (⟨"PinAngelsModel", "taken", "()I"⟩, 16) := ⟨⟨by decide +kernel, by decide +kernel⟩, List.mem_of_getElem? (i := 639) (by decide +kernel), List.mem_of_getElem? (i := 705) (by decide +kernel), List.mem_of_getElem? (i := 706) (by decide +kernel)⟩
theorem lw_p15 : lw_okq (⟨"PinAngelsModel", "isFigure", "(I)Z"⟩, 16) := ⟨⟨by decide +kernel, by decide +kernel⟩, List.mem_of_getElem? (i := 639) (by decide +kernel), List.mem_of_getElem? (i := 721) (by decide +kernel), List.mem_of_getElem? (i := 722) (by decide +kernel)⟩
def lw_privs_1 : List (MethodName × Nat) := [(⟨"PinAngels$Tape", "readPlaces", "(LPinAngels$Ring;)Z"⟩, 3), (⟨"PinAngels$Tape", "takes", "(I)Z"⟩, 3), (⟨"PinAngels$Tape", "next", "()I"⟩, 3), (⟨"PinAngels$Tape", "readFigures", "(LPinAngels$Ring;)Z"⟩, 3), (⟨"PinAngels$Tape", "readFigure", "(LPinAngels$Ring;)Z"⟩, 3), (⟨"PinAngels$Tape", "takeDigit", "(I)I"⟩, 3), (⟨"PinAngels$Tape", "readTune", "(LPinAngels$Ring;)Z"⟩, 3), (⟨"PinAngels", "refusedBeats", "(I)I"⟩, 9), (⟨"PinAngels", "roundsTillAllBack", "()I"⟩, 9), (⟨"PinAngels$Search", "comeTo", "(III)V"⟩, 5), (⟨"PinAngels", "countWays", "(II)V"⟩, 9), (⟨"PinAngels", "countWaysOn", "()V"⟩, 9), (⟨"PinAngels", "isSeenAsTold", "(IIIII)Z"⟩, 9), (⟨"PinAngels", "goesAsTold", "(LPinAngels$Ring;IIII)Z"⟩, 9), (⟨"PinAngelsModel", "taken", "()I"⟩, 16), (⟨"PinAngelsModel", "isFigure", "(I)Z"⟩, 16)]
theorem lw_r1 : ∀ q ∈ lw_privs_1, lw_okq q := List.forall_mem_cons.mpr ⟨lw_p0, List.forall_mem_cons.mpr ⟨lw_p1, List.forall_mem_cons.mpr ⟨lw_p2, List.forall_mem_cons.mpr ⟨lw_p3, List.forall_mem_cons.mpr ⟨lw_p4, List.forall_mem_cons.mpr ⟨lw_p5, List.forall_mem_cons.mpr ⟨lw_p6, List.forall_mem_cons.mpr ⟨lw_p7, List.forall_mem_cons.mpr ⟨lw_p8, List.forall_mem_cons.mpr ⟨lw_p9, List.forall_mem_cons.mpr ⟨lw_p10, List.forall_mem_cons.mpr ⟨lw_p11, List.forall_mem_cons.mpr ⟨lw_p12, List.forall_mem_cons.mpr ⟨lw_p13, List.forall_mem_cons.mpr ⟨lw_p14, List.forall_mem_cons.mpr ⟨lw_p15, fun _ h => absurd h List.not_mem_nil⟩⟩⟩⟩⟩⟩⟩⟩⟩⟩⟩⟩⟩⟩⟩⟩
theorem lw_p16 : lw_okq (⟨"PinAngelsModel", "orderOf", "(I)I"⟩, 16) := ⟨⟨by decide +kernel, by decide +kernel⟩, List.mem_of_getElem? (i := 639) (by decide +kernel), List.mem_of_getElem? (i := 733) (by decide +kernel), List.mem_of_getElem? (i := 734) (by decide +kernel)⟩
theorem lw_p17 : lw_okq (⟨"PinAngelsModel", "leadsOf", "(II)I"⟩, 16) := ⟨⟨by decide +kernel, by decide +kernel⟩, List.mem_of_getElem? (i := 639) (by decide +kernel), List.mem_of_getElem? (i := 737) (by decide +kernel), List.mem_of_getElem? (i := 738) (by decide +kernel)⟩
theorem lw_p18 : lw_okq (⟨"PinAngelsModel", "keptBy", "(I)I"⟩, 16) := ⟨⟨by decide +kernel, by decide +kernel⟩, List.mem_of_getElem? (i := 639) (by decide +kernel), List.mem_of_getElem? (i := 750) (by decide +kernel), List.mem_of_getElem? (i := 751) (by decide +kernel)⟩
theorem lw_p19 : lw_okq (⟨"PinAngelsModel", "sameAs", "(I)I"⟩, 16) := ⟨⟨by decide +kernel, by decide +kernel⟩, List.mem_of_getElem? (i := 639) (by decide +kernel), List.mem_of_getElem? (i := 754) (by decide +kernel), List.mem_of_getElem? (i := 755) (by decide +kernel)⟩
theorem lw_p20 : lw_okq (⟨"PinAngelsModel", "areAlike", "(II)Z"⟩, 16) := ⟨⟨by decide +kernel, by decide +kernel⟩, List.mem_of_getElem? (i := 639) (by decide +kernel), List.mem_of_getElem? (i := 758) (by decide +kernel), List.mem_of_getElem? (i := 759) (by decide +kernel)⟩
theorem lw_p21 : lw_okq (⟨"PinAngelsModel", "isAngel", "(I)Z"⟩, 16) := ⟨⟨by decide +kernel, by decide +kernel⟩, List.mem_of_getElem? (i := 639) (by decide +kernel), List.mem_of_getElem? (i := 770) (by decide +kernel), List.mem_of_getElem? (i := 771) (by decide +kernel)⟩
theorem lw_p22 : lw_okq (⟨"PinAngelsModel", "takesRing", "()Z"⟩, 16) := ⟨⟨by decide +kernel, by decide +kernel⟩, List.mem_of_getElem? (i := 639) (by decide +kernel), List.mem_of_getElem? (i := 791) (by decide +kernel), List.mem_of_getElem? (i := 792) (by decide +kernel)⟩
theorem lw_p23 : lw_okq (⟨"PinAngelsModel", "takesPlaces", "()Z"⟩, 16) := ⟨⟨by decide +kernel, by decide +kernel⟩, List.mem_of_getElem? (i := 639) (by decide +kernel), List.mem_of_getElem? (i := 795) (by decide +kernel), List.mem_of_getElem? (i := 796) (by decide +kernel)⟩
theorem lw_p24 : lw_okq (⟨"PinAngelsModel", "peek", "()I"⟩, 16) := ⟨⟨by decide +kernel, by decide +kernel⟩, List.mem_of_getElem? (i := 639) (by decide +kernel), List.mem_of_getElem? (i := 799) (by decide +kernel), List.mem_of_getElem? (i := 800) (by decide +kernel)⟩
theorem lw_p25 : lw_okq (⟨"PinAngelsModel", "takes", "(I)Z"⟩, 16) := ⟨⟨by decide +kernel, by decide +kernel⟩, List.mem_of_getElem? (i := 639) (by decide +kernel), List.mem_of_getElem? (i := 803) (by decide +kernel), List.mem_of_getElem? (i := 804) (by decide +kernel)⟩
theorem lw_p26 : lw_okq (⟨"PinAngelsModel", "takesFigure", "()Z"⟩, 16) := ⟨⟨by decide +kernel, by decide +kernel⟩, List.mem_of_getElem? (i := 639) (by decide +kernel), List.mem_of_getElem? (i := 807) (by decide +kernel), List.mem_of_getElem? (i := 808) (by decide +kernel)⟩
theorem lw_p27 : lw_okq (⟨"PinAngelsModel", "takesTune", "()Z"⟩, 16) := ⟨⟨by decide +kernel, by decide +kernel⟩, List.mem_of_getElem? (i := 639) (by decide +kernel), List.mem_of_getElem? (i := 814) (by decide +kernel), List.mem_of_getElem? (i := 815) (by decide +kernel)⟩
theorem lw_p28 : lw_okq (⟨"PinAngelsModel", "bring", "(III)V"⟩, 16) := ⟨⟨by decide +kernel, by decide +kernel⟩, List.mem_of_getElem? (i := 639) (by decide +kernel), List.mem_of_getElem? (i := 818) (by decide +kernel), List.mem_of_getElem? (i := 819) (by decide +kernel)⟩
theorem lw_p29 : lw_okq (⟨"PinAngelsModel", "goneOnes", "()I"⟩, 16) := ⟨⟨by decide +kernel, by decide +kernel⟩, List.mem_of_getElem? (i := 639) (by decide +kernel), List.mem_of_getElem? (i := 826) (by decide +kernel), List.mem_of_getElem? (i := 827) (by decide +kernel)⟩
theorem lw_p30 : lw_okq (⟨"PinAngelsModel", "minds", "()V"⟩, 16) := ⟨⟨by decide +kernel, by decide +kernel⟩, List.mem_of_getElem? (i := 639) (by decide +kernel), List.mem_of_getElem? (i := 835) (by decide +kernel), List.mem_of_getElem? (i := 836) (by decide +kernel)⟩
theorem lw_p31 : lw_okq (⟨"PinAngelsModel", "passes", "()V"⟩, 16) := ⟨⟨by decide +kernel, by decide +kernel⟩, List.mem_of_getElem? (i := 639) (by decide +kernel), List.mem_of_getElem? (i := 839) (by decide +kernel), List.mem_of_getElem? (i := 840) (by decide +kernel)⟩
def lw_privs_2 : List (MethodName × Nat) := [(⟨"PinAngelsModel", "orderOf", "(I)I"⟩, 16), (⟨"PinAngelsModel", "leadsOf", "(II)I"⟩, 16), (⟨"PinAngelsModel", "keptBy", "(I)I"⟩, 16), (⟨"PinAngelsModel", "sameAs", "(I)I"⟩, 16), (⟨"PinAngelsModel", "areAlike", "(II)Z"⟩, 16), (⟨"PinAngelsModel", "isAngel", "(I)Z"⟩, 16), (⟨"PinAngelsModel", "takesRing", "()Z"⟩, 16), (⟨"PinAngelsModel", "takesPlaces", "()Z"⟩, 16), (⟨"PinAngelsModel", "peek", "()I"⟩, 16), (⟨"PinAngelsModel", "takes", "(I)Z"⟩, 16), (⟨"PinAngelsModel", "takesFigure", "()Z"⟩, 16), (⟨"PinAngelsModel", "takesTune", "()Z"⟩, 16), (⟨"PinAngelsModel", "bring", "(III)V"⟩, 16), (⟨"PinAngelsModel", "goneOnes", "()I"⟩, 16), (⟨"PinAngelsModel", "minds", "()V"⟩, 16), (⟨"PinAngelsModel", "passes", "()V"⟩, 16)]
theorem lw_r2 : ∀ q ∈ lw_privs_2, lw_okq q := List.forall_mem_cons.mpr ⟨lw_p16, List.forall_mem_cons.mpr ⟨lw_p17, List.forall_mem_cons.mpr ⟨lw_p18, List.forall_mem_cons.mpr ⟨lw_p19, List.forall_mem_cons.mpr ⟨lw_p20, List.forall_mem_cons.mpr ⟨lw_p21, List.forall_mem_cons.mpr ⟨lw_p22, List.forall_mem_cons.mpr ⟨lw_p23, List.forall_mem_cons.mpr ⟨lw_p24, List.forall_mem_cons.mpr ⟨lw_p25, List.forall_mem_cons.mpr ⟨lw_p26, List.forall_mem_cons.mpr ⟨lw_p27, List.forall_mem_cons.mpr ⟨lw_p28, List.forall_mem_cons.mpr ⟨lw_p29, List.forall_mem_cons.mpr ⟨lw_p30, List.forall_mem_cons.mpr ⟨lw_p31, fun _ h => absurd h List.not_mem_nil⟩⟩⟩⟩⟩⟩⟩⟩⟩⟩⟩⟩⟩⟩⟩⟩
theorem lw_p32 : lw_okq (⟨"PinAngelsModel", "blows", "(I)V"⟩, 16) := ⟨⟨by decide +kernel, by decide +kernel⟩, List.mem_of_getElem? (i := 639) (by decide +kernel), List.mem_of_getElem? (i := 847) (by decide +kernel), List.mem_of_getElem? (i := 848) (by decide +kernel)⟩
theorem lw_p33 : lw_okq (⟨"PinAngelsModel", "behind", "(II)I"⟩, 16) := ⟨⟨by decide +kernel, by decide +kernel⟩, List.mem_of_getElem? (i := 639) (by decide +kernel), List.mem_of_getElem? (i := 886) (by decide +kernel), List.mem_of_getElem? (i := 887) (by decide +kernel)⟩
theorem lw_p34 : lw_okq (⟨"PinAngelsModel", "ringOf", "(I)I"⟩, 16) := ⟨⟨by decide +kernel, by decide +kernel⟩, List.mem_of_getElem? (i := 639) (by decide +kernel), List.mem_of_getElem? (i := 890) (by decide +kernel), List.mem_of_getElem? (i := 891) (by decide +kernel)⟩
theorem lw_p35 : lw_okq (⟨"PinAngelsModel", "goesBy", "(II)I"⟩, 16) := ⟨⟨by decide +kernel, by decide +kernel⟩, List.mem_of_getElem? (i := 639) (by decide +kernel), List.mem_of_getElem? (i := 894) (by decide +kernel), List.mem_of_getElem? (i := 895) (by decide +kernel)⟩
theorem lw_p36 : lw_okq (⟨"PinAngelsModel", "laysLeft", "(I)V"⟩, 16) := ⟨⟨by decide +kernel, by decide +kernel⟩, List.mem_of_getElem? (i := 639) (by decide +kernel), List.mem_of_getElem? (i := 915) (by decide +kernel), List.mem_of_getElem? (i := 916) (by decide +kernel)⟩
theorem lw_p37 : lw_okq (⟨"PinAngelsModel", "ledBy", "(II)I"⟩, 16) := ⟨⟨by decide +kernel, by decide +kernel⟩, List.mem_of_getElem? (i := 639) (by decide +kernel), List.mem_of_getElem? (i := 920) (by decide +kernel), List.mem_of_getElem? (i := 921) (by decide +kernel)⟩
theorem lw_p38 : lw_okq (⟨"PinAngelsModel", "laysFar", "(I)I"⟩, 16) := ⟨⟨by decide +kernel, by decide +kernel⟩, List.mem_of_getElem? (i := 639) (by decide +kernel), List.mem_of_getElem? (i := 928) (by decide +kernel), List.mem_of_getElem? (i := 929) (by decide +kernel)⟩
theorem lw_p39 : lw_okq (⟨"PinAngelsModel", "against", "(IIII)I"⟩, 16) := ⟨⟨by decide +kernel, by decide +kernel⟩, List.mem_of_getElem? (i := 639) (by decide +kernel), List.mem_of_getElem? (i := 964) (by decide +kernel), List.mem_of_getElem? (i := 965) (by decide +kernel)⟩
def lw_privs_3 : List (MethodName × Nat) := [(⟨"PinAngelsModel", "blows", "(I)V"⟩, 16), (⟨"PinAngelsModel", "behind", "(II)I"⟩, 16), (⟨"PinAngelsModel", "ringOf", "(I)I"⟩, 16), (⟨"PinAngelsModel", "goesBy", "(II)I"⟩, 16), (⟨"PinAngelsModel", "laysLeft", "(I)V"⟩, 16), (⟨"PinAngelsModel", "ledBy", "(II)I"⟩, 16), (⟨"PinAngelsModel", "laysFar", "(I)I"⟩, 16), (⟨"PinAngelsModel", "against", "(IIII)I"⟩, 16)]
theorem lw_r3 : ∀ q ∈ lw_privs_3, lw_okq q := List.forall_mem_cons.mpr ⟨lw_p32, List.forall_mem_cons.mpr ⟨lw_p33, List.forall_mem_cons.mpr ⟨lw_p34, List.forall_mem_cons.mpr ⟨lw_p35, List.forall_mem_cons.mpr ⟨lw_p36, List.forall_mem_cons.mpr ⟨lw_p37, List.forall_mem_cons.mpr ⟨lw_p38, List.forall_mem_cons.mpr ⟨lw_p39, fun _ h => absurd h List.not_mem_nil⟩⟩⟩⟩⟩⟩⟩⟩
def lw_privs : List (MethodName × Nat) := lw_privs_1 ++ (lw_privs_2 ++ (lw_privs_3))
def lw_tbl : List Cond := k2_sels lw_privs ++ tables_1
theorem lw_privs_ok : ∀ q ∈ lw_privs, lw_okq q := by
  show ∀ q ∈ lw_privs_1 ++ (lw_privs_2 ++ (lw_privs_3)), lw_okq q
  exact List.forall_mem_append.mpr ⟨lw_r1, List.forall_mem_append.mpr ⟨lw_r2, lw_r3⟩⟩
end
section
def RX0 : String := "PinAngels$Past"
def TX0 : u_T := fun k => match k with
  | 0 => ("PinAngels$Past", "places", "[I", true)
  | 1 => ("PinAngels$Past", "atBeat", "[I", true)
  | 2 => ("PinAngels$Past", "draws", "[I", true)
  | 3 => ("PinAngels$Past", "slot", "I", false)
  | _ => ("PinAngels$Past", "known", "I", false)
def tyX0 : Nat → FieldType := fun k => match k with
  | 0 => .array .int
  | 1 => .array .int
  | 2 => .array .int
  | 3 => .int
  | _ => .int
abbrev wsX00 : List Cond := u_ws RX0 TX0 5
theorem nmX0 : ∀ a, a < 5 → ∀ b, b < 5 → a ≠ b → (TX0 a).2.1 ≠ (TX0 b).2.1 := by decide +kernel
theorem tyX0_ok : ∀ k, k < 5 → parseFieldDescriptor (TX0 k).2.2.1 = some (tyX0 k) := by decide +kernel
abbrev cX0_init : ByteArray := prog_2_method_1_code
def yX0_init : MethodName := ⟨RX0, "<init>", "()V"⟩
abbrev cX0_forget : ByteArray := prog_2_method_2_code
def yX0_forget : MethodName := ⟨RX0, "forget", "()V"⟩
abbrev cX0_becomeLike : ByteArray := prog_2_method_3_code
def yX0_becomeLike : MethodName := ⟨RX0, "becomeLike", "(LPinAngels$Past;)V"⟩
abbrev cX0_note : ByteArray := prog_2_method_4_code
def yX0_note : MethodName := ⟨RX0, "note", "(LPinAngels$Ring;)V"⟩
abbrev cX0_bringBack : ByteArray := prog_2_method_5_code
def yX0_bringBack : MethodName := ⟨RX0, "bringBack", "(LPinAngels$Ring;)V"⟩
def RX1 : String := "PinAngels$Ring"
def TX1 : u_T := fun k => match k with
  | 0 => ("PinAngels$Ring", "places", "[I", true)
  | 1 => ("PinAngels$Ring", "kinds", "[I", true)
  | 2 => ("PinAngels$Ring", "fars", "[I", true)
  | 3 => ("PinAngels$Ring", "led", "[I", true)
  | 4 => ("PinAngels$Ring", "melody", "[I", true)
  | 5 => ("PinAngels$Ring", "past", "LPinAngels$Past;", true)
  | 6 => ("PinAngels$Ring", "angels", "I", false)
  | 7 => ("PinAngels$Ring", "figures", "I", false)
  | 8 => ("PinAngels$Ring", "length", "I", false)
  | 9 => ("PinAngels$Ring", "beat", "I", false)
  | _ => ("PinAngels$Ring", "draw", "I", false)
def tyX1 : Nat → FieldType := fun k => match k with
  | 0 => .array .int
  | 1 => .array .int
  | 2 => .array .int
  | 3 => .array .int
  | 4 => .array .int
  | 5 => .object "PinAngels$Past"
  | 6 => .int
  | 7 => .int
  | 8 => .int
  | 9 => .int
  | _ => .int
abbrev wsX10 : List Cond := u_ws RX1 TX1 11
theorem nmX1 : ∀ a, a < 11 → ∀ b, b < 11 → a ≠ b → (TX1 a).2.1 ≠ (TX1 b).2.1 := by decide +kernel
theorem tyX1_ok : ∀ k, k < 11 → parseFieldDescriptor (TX1 k).2.2.1 = some (tyX1 k) := by decide +kernel
abbrev cX1_init : ByteArray := prog_3_method_1_code
def yX1_init : MethodName := ⟨RX1, "<init>", "()V"⟩
abbrev cX1_clear : ByteArray := prog_3_method_2_code
def yX1_clear : MethodName := ⟨RX1, "clear", "()V"⟩
abbrev cX1_becomeLike : ByteArray := prog_3_method_3_code
def yX1_becomeLike : MethodName := ⟨RX1, "becomeLike", "(LPinAngels$Ring;)V"⟩
abbrev cX1_hasAngel : ByteArray := prog_3_method_4_code
def yX1_hasAngel : MethodName := ⟨RX1, "hasAngel", "(I)Z"⟩
abbrev cX1_hasFigure : ByteArray := prog_3_method_5_code
def yX1_hasFigure : MethodName := ⟨RX1, "hasFigure", "(I)Z"⟩
abbrev cX1_addAngel : ByteArray := prog_3_method_6_code
def yX1_addAngel : MethodName := ⟨RX1, "addAngel", "(I)I"⟩
abbrev cX1_addFigure : ByteArray := prog_3_method_7_code
def yX1_addFigure : MethodName := ⟨RX1, "addFigure", "(II)I"⟩
abbrev cX1_tell : ByteArray := prog_3_method_8_code
def yX1_tell : MethodName := ⟨RX1, "tell", "(III)V"⟩
abbrev cX1_addToTune : ByteArray := prog_3_method_9_code
def yX1_addToTune : MethodName := ⟨RX1, "addToTune", "(I)I"⟩
abbrev cX1_standing : ByteArray := prog_3_method_10_code
def yX1_standing : MethodName := ⟨RX1, "standing", "()I"⟩
abbrev cX1_goneOnes : ByteArray := prog_3_method_11_code
def yX1_goneOnes : MethodName := ⟨RX1, "goneOnes", "()I"⟩
abbrev cX1_ledBy : ByteArray := prog_3_method_12_code
def yX1_ledBy : MethodName := ⟨RX1, "ledBy", "(II)I"⟩
abbrev cX1_setLedBy : ByteArray := prog_3_method_13_code
def yX1_setLedBy : MethodName := ⟨RX1, "setLedBy", "(II)I"⟩
abbrev cX1_orderOf : ByteArray := prog_3_method_14_code
def yX1_orderOf : MethodName := ⟨RX1, "orderOf", "(I)I"⟩
abbrev cX1_turnsTillBack : ByteArray := prog_3_method_15_code
def yX1_turnsTillBack : MethodName := ⟨RX1, "turnsTillBack", "(II)I"⟩
abbrev cX1_keptBy : ByteArray := prog_3_method_16_code
def yX1_keptBy : MethodName := ⟨RX1, "keptBy", "(I)I"⟩
abbrev cX1_leastLike : ByteArray := prog_3_method_17_code
def yX1_leastLike : MethodName := ⟨RX1, "leastLike", "(I)I"⟩
abbrev cX1_leadAlike : ByteArray := prog_3_method_18_code
def yX1_leadAlike : MethodName := ⟨RX1, "leadAlike", "(II)Z"⟩
abbrev cX1_figureOfBeat : ByteArray := prog_3_method_19_code
def yX1_figureOfBeat : MethodName := ⟨RX1, "figureOfBeat", "(I)I"⟩
abbrev cX1_goesOn : ByteArray := prog_3_method_20_code
def yX1_goesOn : MethodName := ⟨RX1, "goesOn", "(II)I"⟩
abbrev cX1_dance : ByteArray := prog_3_method_21_code
def yX1_dance : MethodName := ⟨RX1, "dance", "()V"⟩
abbrev cX1_blow : ByteArray := prog_3_method_22_code
def yX1_blow : MethodName := ⟨RX1, "blow", "(I)V"⟩
abbrev cX1_drawAndBlow : ByteArray := prog_3_method_23_code
def yX1_drawAndBlow : MethodName := ⟨RX1, "drawAndBlow", "()V"⟩
abbrev cX1_walk : ByteArray := prog_3_method_24_code
def yX1_walk : MethodName := ⟨RX1, "walk", "(II)I"⟩
abbrev cX1_roundsTillBack : ByteArray := prog_3_method_25_code
def yX1_roundsTillBack : MethodName := ⟨RX1, "roundsTillBack", "(I)I"⟩
abbrev cX1_placeBehind : ByteArray := prog_3_method_26_code
def yX1_placeBehind : MethodName := ⟨RX1, "placeBehind", "(II)I"⟩
def RX2 : String := "PinAngels$Search"
def TX2 : u_T := fun k => match k with
  | 0 => ("PinAngels$Search", "far", "[I", true)
  | 1 => ("PinAngels$Search", "from", "[I", true)
  | 2 => ("PinAngels$Search", "by", "[I", true)
  | 3 => ("PinAngels$Search", "inTurn", "[I", true)
  | _ => ("PinAngels$Search", "reached", "I", false)
def tyX2 : Nat → FieldType := fun k => match k with
  | 0 => .array .int
  | 1 => .array .int
  | 2 => .array .int
  | 3 => .array .int
  | _ => .int
abbrev wsX20 : List Cond := u_ws RX2 TX2 5
theorem nmX2 : ∀ a, a < 5 → ∀ b, b < 5 → a ≠ b → (TX2 a).2.1 ≠ (TX2 b).2.1 := by decide +kernel
theorem tyX2_ok : ∀ k, k < 5 → parseFieldDescriptor (TX2 k).2.2.1 = some (tyX2 k) := by decide +kernel
abbrev cX2_init : ByteArray := prog_4_method_1_code
def yX2_init : MethodName := ⟨RX2, "<init>", "()V"⟩
abbrev cX2_explore : ByteArray := prog_4_method_2_code
def yX2_explore : MethodName := ⟨RX2, "explore", "(LPinAngels$Ring;I)V"⟩
abbrev cX2_comeTo : ByteArray := prog_4_method_3_code
def yX2_comeTo : MethodName := ⟨RX2, "comeTo", "(III)V"⟩
abbrev cX2_howFar : ByteArray := prog_4_method_4_code
def yX2_howFar : MethodName := ⟨RX2, "howFar", "(I)I"⟩
abbrev cX2_figureOnWay : ByteArray := prog_4_method_5_code
def yX2_figureOnWay : MethodName := ⟨RX2, "figureOnWay", "(II)I"⟩
abbrev cX2_widestPair : ByteArray := prog_4_method_6_code
def yX2_widestPair : MethodName := ⟨RX2, "widestPair", "()I"⟩
def RX3 : String := "PinAngels$Sheets"
def TX3 : u_T := fun k => match k with
  | 0 => ("PinAngels$Sheets", "lanes", "[I", true)
  | 1 => ("PinAngels$Sheets", "sizes", "[I", true)
  | _ => ("PinAngels$Sheets", "items", "[J", true)
def tyX3 : Nat → FieldType := fun k => match k with
  | 0 => .array .int
  | 1 => .array .int
  | _ => .array .long
abbrev wsX30 : List Cond := u_ws RX3 TX3 3
theorem nmX3 : ∀ a, a < 3 → ∀ b, b < 3 → a ≠ b → (TX3 a).2.1 ≠ (TX3 b).2.1 := by decide +kernel
theorem tyX3_ok : ∀ k, k < 3 → parseFieldDescriptor (TX3 k).2.2.1 = some (tyX3 k) := by decide +kernel
abbrev cX3_init : ByteArray := prog_5_method_1_code
def yX3_init : MethodName := ⟨RX3, "<init>", "()V"⟩
abbrev cX3_isThere : ByteArray := prog_5_method_2_code
def yX3_isThere : MethodName := ⟨RX3, "isThere", "(I)Z"⟩
abbrev cX3_hasItems : ByteArray := prog_5_method_3_code
def yX3_hasItems : MethodName := ⟨RX3, "hasItems", "(III)Z"⟩
abbrev cX3_refused : ByteArray := prog_5_method_4_code
def yX3_refused : MethodName := ⟨RX3, "refused", "(IIII)I"⟩
abbrev cX3_renew : ByteArray := prog_5_method_5_code
def yX3_renew : MethodName := ⟨RX3, "renew", "(III)V"⟩
abbrev cX3_takeAway : ByteArray := prog_5_method_6_code
def yX3_takeAway : MethodName := ⟨RX3, "takeAway", "(I)I"⟩
abbrev cX3_itemOf : ByteArray := prog_5_method_7_code
def yX3_itemOf : MethodName := ⟨RX3, "itemOf", "(II)J"⟩
abbrev cX3_put : ByteArray := prog_5_method_8_code
def yX3_put : MethodName := ⟨RX3, "put", "(IIJ)V"⟩
abbrev cX3_carry : ByteArray := prog_5_method_9_code
def yX3_carry : MethodName := ⟨RX3, "carry", "(IIIII)V"⟩
abbrev cX3_lowestBits : ByteArray := prog_5_method_10_code
def yX3_lowestBits : MethodName := ⟨RX3, "lowestBits", "(IJ)J"⟩
def RX4 : String := "PinAngels$Tape"
def TX4 : u_T := fun k => match k with
  | 0 => ("PinAngels$Tape", "letters", "[I", true)
  | 1 => ("PinAngels$Tape", "typed", "I", false)
  | _ => ("PinAngels$Tape", "spot", "I", false)
def tyX4 : Nat → FieldType := fun k => match k with
  | 0 => .array .int
  | 1 => .int
  | _ => .int
abbrev wsX40 : List Cond := u_ws RX4 TX4 3
theorem nmX4 : ∀ a, a < 3 → ∀ b, b < 3 → a ≠ b → (TX4 a).2.1 ≠ (TX4 b).2.1 := by decide +kernel
theorem tyX4_ok : ∀ k, k < 3 → parseFieldDescriptor (TX4 k).2.2.1 = some (tyX4 k) := by decide +kernel
abbrev cX4_init : ByteArray := prog_6_method_1_code
def yX4_init : MethodName := ⟨RX4, "<init>", "()V"⟩
abbrev cX4_isFull : ByteArray := prog_6_method_2_code
def yX4_isFull : MethodName := ⟨RX4, "isFull", "()Z"⟩
abbrev cX4_put : ByteArray := prog_6_method_3_code
def yX4_put : MethodName := ⟨RX4, "put", "(I)I"⟩
abbrev cX4_wipe : ByteArray := prog_6_method_4_code
def yX4_wipe : MethodName := ⟨RX4, "wipe", "()V"⟩
abbrev cX4_readInto : ByteArray := prog_6_method_5_code
def yX4_readInto : MethodName := ⟨RX4, "readInto", "(LPinAngels$Ring;)Z"⟩
abbrev cX4_readPlaces : ByteArray := prog_6_method_6_code
def yX4_readPlaces : MethodName := ⟨RX4, "readPlaces", "(LPinAngels$Ring;)Z"⟩
abbrev cX4_readFigures : ByteArray := prog_6_method_7_code
def yX4_readFigures : MethodName := ⟨RX4, "readFigures", "(LPinAngels$Ring;)Z"⟩
abbrev cX4_readFigure : ByteArray := prog_6_method_8_code
def yX4_readFigure : MethodName := ⟨RX4, "readFigure", "(LPinAngels$Ring;)Z"⟩
abbrev cX4_readTune : ByteArray := prog_6_method_9_code
def yX4_readTune : MethodName := ⟨RX4, "readTune", "(LPinAngels$Ring;)Z"⟩
abbrev cX4_next : ByteArray := prog_6_method_10_code
def yX4_next : MethodName := ⟨RX4, "next", "()I"⟩
abbrev cX4_takes : ByteArray := prog_6_method_11_code
def yX4_takes : MethodName := ⟨RX4, "takes", "(I)Z"⟩
abbrev cX4_takeDigit : ByteArray := prog_6_method_12_code
def yX4_takeDigit : MethodName := ⟨RX4, "takeDigit", "(I)I"⟩
abbrev cX4_kindOf : ByteArray := prog_6_method_13_code
def yX4_kindOf : MethodName := ⟨RX4, "kindOf", "(I)I"⟩
def RX5 : String := "PinAngels"
def TX5 : u_T := fun k => match k with
  | 0 => ("PinAngels", "now", "LPinAngels$Ring;", true)
  | 1 => ("PinAngels", "kept", "LPinAngels$Ring;", true)
  | 2 => ("PinAngels", "tried", "LPinAngels$Ring;", true)
  | 3 => ("PinAngels", "tape", "LPinAngels$Tape;", true)
  | 4 => ("PinAngels", "sheets", "LPinAngels$Sheets;", true)
  | 5 => ("PinAngels", "search", "LPinAngels$Search;", true)
  | 6 => ("PinAngels", "ways", "[I", true)
  | 7 => ("PinAngels", "waysOn", "[I", true)
  | _ => ("PinAngels", "imaged", "Z", false)
def tyX5 : Nat → FieldType := fun k => match k with
  | 0 => .object "PinAngels$Ring"
  | 1 => .object "PinAngels$Ring"
  | 2 => .object "PinAngels$Ring"
  | 3 => .object "PinAngels$Tape"
  | 4 => .object "PinAngels$Sheets"
  | 5 => .object "PinAngels$Search"
  | 6 => .array .int
  | 7 => .array .int
  | _ => .boolean
abbrev wsX50 : List Cond := u_ws RX5 TX5 9
theorem nmX5 : ∀ a, a < 9 → ∀ b, b < 9 → a ≠ b → (TX5 a).2.1 ≠ (TX5 b).2.1 := by decide +kernel
theorem tyX5_ok : ∀ k, k < 9 → parseFieldDescriptor (TX5 k).2.2.1 = some (tyX5 k) := by decide +kernel
abbrev cX5_init : ByteArray := prog_1_method_1_code
def yX5_init : MethodName := ⟨RX5, "<init>", "()V"⟩
abbrev cX5_angel : ByteArray := prog_1_method_2_code
def yX5_angel : MethodName := ⟨RX5, "angel", "(I)I"⟩
abbrev cX5_figure : ByteArray := prog_1_method_3_code
def yX5_figure : MethodName := ⟨RX5, "figure", "(II)I"⟩
abbrev cX5_tune : ByteArray := prog_1_method_4_code
def yX5_tune : MethodName := ⟨RX5, "tune", "(I)I"⟩
abbrev cX5_hush : ByteArray := prog_1_method_5_code
def yX5_hush : MethodName := ⟨RX5, "hush", "()I"⟩
abbrev cX5_of : ByteArray := prog_1_method_6_code
def yX5_of : MethodName := ⟨RX5, "of", "(II)I"⟩
abbrev cX5_leads : ByteArray := prog_1_method_7_code
def yX5_leads : MethodName := ⟨RX5, "leads", "(II)I"⟩
abbrev cX5_at : ByteArray := prog_1_method_8_code
def yX5_at : MethodName := ⟨RX5, "at", "(I)I"⟩
abbrev cX5_seen : ByteArray := prog_1_method_9_code
def yX5_seen : MethodName := ⟨RX5, "seen", "(I)I"⟩
abbrev cX5_type : ByteArray := prog_1_method_10_code
def yX5_type : MethodName := ⟨RX5, "type", "(I)I"⟩
abbrev cX5_ring : ByteArray := prog_1_method_11_code
def yX5_ring : MethodName := ⟨RX5, "ring", "()I"⟩
abbrev cX5_count : ByteArray := prog_1_method_12_code
def yX5_count : MethodName := ⟨RX5, "count", "(I)I"⟩
abbrev cX5_beats : ByteArray := prog_1_method_13_code
def yX5_beats : MethodName := ⟨RX5, "beats", "(I)I"⟩
abbrev cX5_draught : ByteArray := prog_1_method_14_code
def yX5_draught : MethodName := ⟨RX5, "draught", "(I)I"⟩
abbrev cX5_leave : ByteArray := prog_1_method_15_code
def yX5_leave : MethodName := ⟨RX5, "leave", "(I)I"⟩
abbrev cX5_come : ByteArray := prog_1_method_16_code
def yX5_come : MethodName := ⟨RX5, "come", "(II)I"⟩
abbrev cX5_drift : ByteArray := prog_1_method_17_code
def yX5_drift : MethodName := ⟨RX5, "drift", "(I)I"⟩
abbrev cX5_undo : ByteArray := prog_1_method_18_code
def yX5_undo : MethodName := ⟨RX5, "undo", "()I"⟩
abbrev cX5_seed : ByteArray := prog_1_method_19_code
def yX5_seed : MethodName := ⟨RX5, "seed", "(I)I"⟩
abbrev cX5_ahead : ByteArray := prog_1_method_20_code
def yX5_ahead : MethodName := ⟨RX5, "ahead", "(II)I"⟩
abbrev cX5_then : ByteArray := prog_1_method_21_code
def yX5_then : MethodName := ⟨RX5, "then", "(III)I"⟩
abbrev cX5_back : ByteArray := prog_1_method_22_code
def yX5_back : MethodName := ⟨RX5, "back", "(I)I"⟩
abbrev cX5_been : ByteArray := prog_1_method_23_code
def yX5_been : MethodName := ⟨RX5, "been", "(I)I"⟩
abbrev cX5_shortest : ByteArray := prog_1_method_24_code
def yX5_shortest : MethodName := ⟨RX5, "shortest", "(II)I"⟩
abbrev cX5_sorts : ByteArray := prog_1_method_25_code
def yX5_sorts : MethodName := ⟨RX5, "sorts", "()I"⟩
abbrev cX5_apart : ByteArray := prog_1_method_26_code
def yX5_apart : MethodName := ⟨RX5, "apart", "(III)I"⟩
abbrev cX5_chance : ByteArray := prog_1_method_27_code
def yX5_chance : MethodName := ⟨RX5, "chance", "(IIII)I"⟩
abbrev cX5_image : ByteArray := prog_1_method_28_code
def yX5_image : MethodName := ⟨RX5, "image", "()I"⟩
abbrev cX5_restore : ByteArray := prog_1_method_29_code
def yX5_restore : MethodName := ⟨RX5, "restore", "()I"⟩
abbrev cX5_counts : ByteArray := prog_1_method_30_code
def yX5_counts : MethodName := ⟨RX5, "counts", "(IIIIII)I"⟩
abbrev cX5_steps : ByteArray := prog_1_method_31_code
def yX5_steps : MethodName := ⟨RX5, "steps", "(IIIIIII)I"⟩
abbrev cX5_film : ByteArray := prog_1_method_32_code
def yX5_film : MethodName := ⟨RX5, "film", "(IIIII)I"⟩
abbrev cX5_sheet : ByteArray := prog_1_method_33_code
def yX5_sheet : MethodName := ⟨RX5, "sheet", "(III)I"⟩
abbrev cX5_drop : ByteArray := prog_1_method_34_code
def yX5_drop : MethodName := ⟨RX5, "drop", "(I)I"⟩
abbrev cX5_item : ByteArray := prog_1_method_35_code
def yX5_item : MethodName := ⟨RX5, "item", "(IIIJ)I"⟩
abbrev cX5_copy : ByteArray := prog_1_method_36_code
def yX5_copy : MethodName := ⟨RX5, "copy", "(IIIII)I"⟩
abbrev cX5_refusedBeats : ByteArray := prog_1_method_37_code
def yX5_refusedBeats : MethodName := ⟨RX5, "refusedBeats", "(I)I"⟩
abbrev cX5_roundsTillAllBack : ByteArray := prog_1_method_38_code
def yX5_roundsTillAllBack : MethodName := ⟨RX5, "roundsTillAllBack", "()I"⟩
abbrev cX5_countWays : ByteArray := prog_1_method_39_code
def yX5_countWays : MethodName := ⟨RX5, "countWays", "(II)V"⟩
abbrev cX5_countWaysOn : ByteArray := prog_1_method_40_code
def yX5_countWaysOn : MethodName := ⟨RX5, "countWaysOn", "()V"⟩
abbrev cX5_isSeenAsTold : ByteArray := prog_1_method_41_code
def yX5_isSeenAsTold : MethodName := ⟨RX5, "isSeenAsTold", "(IIIII)Z"⟩
abbrev cX5_goesAsTold : ByteArray := prog_1_method_42_code
def yX5_goesAsTold : MethodName := ⟨RX5, "goesAsTold", "(LPinAngels$Ring;IIII)Z"⟩
abbrev cX5_within : ByteArray := prog_1_method_43_code
def yX5_within : MethodName := ⟨RX5, "within", "(III)Z"⟩
abbrev cX5_isPlace : ByteArray := prog_1_method_44_code
def yX5_isPlace : MethodName := ⟨RX5, "isPlace", "(I)Z"⟩
abbrev cX5_isSheet : ByteArray := prog_1_method_45_code
def yX5_isSheet : MethodName := ⟨RX5, "isSheet", "(I)Z"⟩
abbrev cX5_isLane : ByteArray := prog_1_method_46_code
def yX5_isLane : MethodName := ⟨RX5, "isLane", "(I)Z"⟩
abbrev cX5_bitOf : ByteArray := prog_1_method_47_code
def yX5_bitOf : MethodName := ⟨RX5, "bitOf", "(I)I"⟩
abbrev cX5_leftBy8 : ByteArray := prog_1_method_48_code
def yX5_leftBy8 : MethodName := ⟨RX5, "leftBy8", "(I)I"⟩
abbrev cX5_holds : ByteArray := prog_1_method_49_code
def yX5_holds : MethodName := ⟨RX5, "holds", "(II)Z"⟩
abbrev cX5_greatestCommon : ByteArray := prog_1_method_50_code
def yX5_greatestCommon : MethodName := ⟨RX5, "greatestCommon", "(II)I"⟩
abbrev cX5_seenFrom : ByteArray := prog_1_method_51_code
def yX5_seenFrom : MethodName := ⟨RX5, "seenFrom", "(II)I"⟩
abbrev cX5_span : ByteArray := prog_1_method_52_code
def yX5_span : MethodName := ⟨RX5, "span", "(I)I"⟩
abbrev cX5_lead : ByteArray := prog_1_method_53_code
def yX5_lead : MethodName := ⟨RX5, "lead", "(III)I"⟩
def RX6 : String := "PinAngelsModel"
def TX6 : u_T := fun k => match k with
  | 0 => ("PinAngelsModel", "w", "[I", true)
  | 1 => ("PinAngelsModel", "isKept", "Z", false)
  | 2 => ("PinAngelsModel", "text", "[I", true)
  | 3 => ("PinAngelsModel", "texted", "I", false)
  | 4 => ("PinAngelsModel", "items", "[J", true)
  | 5 => ("PinAngelsModel", "sheetSize", "[I", true)
  | 6 => ("PinAngelsModel", "sheetLane", "[I", true)
  | 7 => ("PinAngelsModel", "order", "[I", true)
  | 8 => ("PinAngelsModel", "place", "I", false)
  | 9 => ("PinAngelsModel", "far", "[I", true)
  | 10 => ("PinAngelsModel", "queue", "[I", true)
  | 11 => ("PinAngelsModel", "left", "[I", true)
  | 12 => ("PinAngelsModel", "pairs", "[I", true)
  | 13 => ("PinAngelsModel", "ways", "[J", true)
  | 14 => ("PinAngelsModel", "waysThen", "[J", true)
  | _ => ("PinAngelsModel", "held", "[J", true)
def tyX6 : Nat → FieldType := fun k => match k with
  | 0 => .array .int
  | 1 => .boolean
  | 2 => .array .int
  | 3 => .int
  | 4 => .array .long
  | 5 => .array .int
  | 6 => .array .int
  | 7 => .array .int
  | 8 => .int
  | 9 => .array .int
  | 10 => .array .int
  | 11 => .array .int
  | 12 => .array .int
  | 13 => .array .long
  | 14 => .array .long
  | _ => .array .long
abbrev wsX60 : List Cond := u_ws RX6 TX6 16
theorem nmX6 : ∀ a, a < 16 → ∀ b, b < 16 → a ≠ b → (TX6 a).2.1 ≠ (TX6 b).2.1 := by decide +kernel
theorem tyX6_ok : ∀ k, k < 16 → parseFieldDescriptor (TX6 k).2.2.1 = some (tyX6 k) := by decide +kernel
abbrev cX6_init : ByteArray := prog_8_method_1_code
def yX6_init : MethodName := ⟨RX6, "<init>", "()V"⟩
abbrev cX6_in : ByteArray := prog_8_method_3_code
def yX6_in : MethodName := ⟨RX6, "in", "(JJJ)Z"⟩
abbrev cX6_has : ByteArray := prog_8_method_4_code
def yX6_has : MethodName := ⟨RX6, "has", "(II)Z"⟩
abbrev cX6_ones : ByteArray := prog_8_method_5_code
def yX6_ones : MethodName := ⟨RX6, "ones", "(I)I"⟩
abbrev cX6_bring : ByteArray := prog_8_method_6_code
def yX6_bring : MethodName := ⟨RX6, "bring", "(III)V"⟩
abbrev cX6_isPlace : ByteArray := prog_8_method_7_code
def yX6_isPlace : MethodName := ⟨RX6, "isPlace", "(I)Z"⟩
abbrev cX6_isAngel : ByteArray := prog_8_method_8_code
def yX6_isAngel : MethodName := ⟨RX6, "isAngel", "(I)Z"⟩
abbrev cX6_isFigure : ByteArray := prog_8_method_9_code
def yX6_isFigure : MethodName := ⟨RX6, "isFigure", "(I)Z"⟩
abbrev cX6_round : ByteArray := prog_8_method_10_code
def yX6_round : MethodName := ⟨RX6, "round", "(II)I"⟩
abbrev cX6_mirror : ByteArray := prog_8_method_11_code
def yX6_mirror : MethodName := ⟨RX6, "mirror", "(II)I"⟩
abbrev cX6_leadsBy : ByteArray := prog_8_method_12_code
def yX6_leadsBy : MethodName := ⟨RX6, "leadsBy", "(III)I"⟩
abbrev cX6_leadsOf : ByteArray := prog_8_method_13_code
def yX6_leadsOf : MethodName := ⟨RX6, "leadsOf", "(II)I"⟩
abbrev cX6_orderOf : ByteArray := prog_8_method_14_code
def yX6_orderOf : MethodName := ⟨RX6, "orderOf", "(I)I"⟩
abbrev cX6_keptBy : ByteArray := prog_8_method_15_code
def yX6_keptBy : MethodName := ⟨RX6, "keptBy", "(I)I"⟩
abbrev cX6_areAlike : ByteArray := prog_8_method_16_code
def yX6_areAlike : MethodName := ⟨RX6, "areAlike", "(II)Z"⟩
abbrev cX6_sameAs : ByteArray := prog_8_method_17_code
def yX6_sameAs : MethodName := ⟨RX6, "sameAs", "(I)I"⟩
abbrev cX6_taken : ByteArray := prog_8_method_18_code
def yX6_taken : MethodName := ⟨RX6, "taken", "()I"⟩
abbrev cX6_angel : ByteArray := prog_8_method_19_code
def yX6_angel : MethodName := ⟨RX6, "angel", "(I)I"⟩
abbrev cX6_figure : ByteArray := prog_8_method_20_code
def yX6_figure : MethodName := ⟨RX6, "figure", "(II)I"⟩
abbrev cX6_tune : ByteArray := prog_8_method_21_code
def yX6_tune : MethodName := ⟨RX6, "tune", "(I)I"⟩
abbrev cX6_hush : ByteArray := prog_8_method_22_code
def yX6_hush : MethodName := ⟨RX6, "hush", "()I"⟩
abbrev cX6_of : ByteArray := prog_8_method_23_code
def yX6_of : MethodName := ⟨RX6, "of", "(II)I"⟩
abbrev cX6_leads : ByteArray := prog_8_method_24_code
def yX6_leads : MethodName := ⟨RX6, "leads", "(II)I"⟩
abbrev cX6_at : ByteArray := prog_8_method_25_code
def yX6_at : MethodName := ⟨RX6, "at", "(I)I"⟩
abbrev cX6_seenOf : ByteArray := prog_8_method_26_code
def yX6_seenOf : MethodName := ⟨RX6, "seenOf", "(II)I"⟩
abbrev cX6_seen : ByteArray := prog_8_method_27_code
def yX6_seen : MethodName := ⟨RX6, "seen", "(I)I"⟩
abbrev cX6_type : ByteArray := prog_8_method_28_code
def yX6_type : MethodName := ⟨RX6, "type", "(I)I"⟩
abbrev cX6_peek : ByteArray := prog_8_method_29_code
def yX6_peek : MethodName := ⟨RX6, "peek", "()I"⟩
abbrev cX6_takes : ByteArray := prog_8_method_30_code
def yX6_takes : MethodName := ⟨RX6, "takes", "(I)Z"⟩
abbrev cX6_kindOf : ByteArray := prog_8_method_31_code
def yX6_kindOf : MethodName := ⟨RX6, "kindOf", "(I)I"⟩
abbrev cX6_takesPlaces : ByteArray := prog_8_method_32_code
def yX6_takesPlaces : MethodName := ⟨RX6, "takesPlaces", "()Z"⟩
abbrev cX6_takesFigure : ByteArray := prog_8_method_33_code
def yX6_takesFigure : MethodName := ⟨RX6, "takesFigure", "()Z"⟩
abbrev cX6_takesTune : ByteArray := prog_8_method_34_code
def yX6_takesTune : MethodName := ⟨RX6, "takesTune", "()Z"⟩
abbrev cX6_takesRing : ByteArray := prog_8_method_35_code
def yX6_takesRing : MethodName := ⟨RX6, "takesRing", "()Z"⟩
abbrev cX6_ring : ByteArray := prog_8_method_36_code
def yX6_ring : MethodName := ⟨RX6, "ring", "()I"⟩
abbrev cX6_goneOnes : ByteArray := prog_8_method_37_code
def yX6_goneOnes : MethodName := ⟨RX6, "goneOnes", "()I"⟩
abbrev cX6_count : ByteArray := prog_8_method_38_code
def yX6_count : MethodName := ⟨RX6, "count", "(I)I"⟩
abbrev cX6_minds : ByteArray := prog_8_method_39_code
def yX6_minds : MethodName := ⟨RX6, "minds", "()V"⟩
abbrev cX6_passes : ByteArray := prog_8_method_40_code
def yX6_passes : MethodName := ⟨RX6, "passes", "()V"⟩
abbrev cX6_blows : ByteArray := prog_8_method_41_code
def yX6_blows : MethodName := ⟨RX6, "blows", "(I)V"⟩
abbrev cX6_beats : ByteArray := prog_8_method_42_code
def yX6_beats : MethodName := ⟨RX6, "beats", "(I)I"⟩
abbrev cX6_draught : ByteArray := prog_8_method_43_code
def yX6_draught : MethodName := ⟨RX6, "draught", "(I)I"⟩
abbrev cX6_leave : ByteArray := prog_8_method_44_code
def yX6_leave : MethodName := ⟨RX6, "leave", "(I)I"⟩
abbrev cX6_come : ByteArray := prog_8_method_45_code
def yX6_come : MethodName := ⟨RX6, "come", "(II)I"⟩
abbrev cX6_drift : ByteArray := prog_8_method_46_code
def yX6_drift : MethodName := ⟨RX6, "drift", "(I)I"⟩
abbrev cX6_undo : ByteArray := prog_8_method_47_code
def yX6_undo : MethodName := ⟨RX6, "undo", "()I"⟩
abbrev cX6_seed : ByteArray := prog_8_method_48_code
def yX6_seed : MethodName := ⟨RX6, "seed", "(I)I"⟩
abbrev cX6_goesBy : ByteArray := prog_8_method_49_code
def yX6_goesBy : MethodName := ⟨RX6, "goesBy", "(II)I"⟩
abbrev cX6_ringOf : ByteArray := prog_8_method_50_code
def yX6_ringOf : MethodName := ⟨RX6, "ringOf", "(I)I"⟩
abbrev cX6_behind : ByteArray := prog_8_method_51_code
def yX6_behind : MethodName := ⟨RX6, "behind", "(II)I"⟩
abbrev cX6_isTime : ByteArray := prog_8_method_52_code
def yX6_isTime : MethodName := ⟨RX6, "isTime", "(I)Z"⟩
abbrev cX6_ahead : ByteArray := prog_8_method_53_code
def yX6_ahead : MethodName := ⟨RX6, "ahead", "(II)I"⟩
abbrev cX6_then : ByteArray := prog_8_method_54_code
def yX6_then : MethodName := ⟨RX6, "then", "(III)I"⟩
abbrev cX6_back : ByteArray := prog_8_method_55_code
def yX6_back : MethodName := ⟨RX6, "back", "(I)I"⟩
abbrev cX6_been : ByteArray := prog_8_method_56_code
def yX6_been : MethodName := ⟨RX6, "been", "(I)I"⟩
abbrev cX6_ledBy : ByteArray := prog_8_method_57_code
def yX6_ledBy : MethodName := ⟨RX6, "ledBy", "(II)I"⟩
abbrev cX6_laysFar : ByteArray := prog_8_method_58_code
def yX6_laysFar : MethodName := ⟨RX6, "laysFar", "(I)I"⟩
abbrev cX6_laysLeft : ByteArray := prog_8_method_59_code
def yX6_laysLeft : MethodName := ⟨RX6, "laysLeft", "(I)V"⟩
abbrev cX6_shortest : ByteArray := prog_8_method_60_code
def yX6_shortest : MethodName := ⟨RX6, "shortest", "(II)I"⟩
abbrev cX6_sorts : ByteArray := prog_8_method_61_code
def yX6_sorts : MethodName := ⟨RX6, "sorts", "()I"⟩
abbrev cX6_apartBy : ByteArray := prog_8_method_62_code
def yX6_apartBy : MethodName := ⟨RX6, "apartBy", "(II)I"⟩
abbrev cX6_apart : ByteArray := prog_8_method_63_code
def yX6_apart : MethodName := ⟨RX6, "apart", "(III)I"⟩
abbrev cX6_chance : ByteArray := prog_8_method_64_code
def yX6_chance : MethodName := ⟨RX6, "chance", "(IIII)I"⟩
abbrev cX6_image : ByteArray := prog_8_method_65_code
def yX6_image : MethodName := ⟨RX6, "image", "()I"⟩
abbrev cX6_restore : ByteArray := prog_8_method_66_code
def yX6_restore : MethodName := ⟨RX6, "restore", "()I"⟩
abbrev cX6_isSheet : ByteArray := prog_8_method_67_code
def yX6_isSheet : MethodName := ⟨RX6, "isSheet", "(I)Z"⟩
abbrev cX6_isLane : ByteArray := prog_8_method_68_code
def yX6_isLane : MethodName := ⟨RX6, "isLane", "(II)Z"⟩
abbrev cX6_against : ByteArray := prog_8_method_69_code
def yX6_against : MethodName := ⟨RX6, "against", "(IIII)I"⟩
abbrev cX6_lowest : ByteArray := prog_8_method_70_code
def yX6_lowest : MethodName := ⟨RX6, "lowest", "(IJ)J"⟩
abbrev cX6_counts : ByteArray := prog_8_method_71_code
def yX6_counts : MethodName := ⟨RX6, "counts", "(IIIIII)I"⟩
abbrev cX6_steps : ByteArray := prog_8_method_72_code
def yX6_steps : MethodName := ⟨RX6, "steps", "(IIIIIII)I"⟩
abbrev cX6_film : ByteArray := prog_8_method_73_code
def yX6_film : MethodName := ⟨RX6, "film", "(IIIII)I"⟩
abbrev cX6_sheet : ByteArray := prog_8_method_74_code
def yX6_sheet : MethodName := ⟨RX6, "sheet", "(III)I"⟩
abbrev cX6_drop : ByteArray := prog_8_method_75_code
def yX6_drop : MethodName := ⟨RX6, "drop", "(I)I"⟩
abbrev cX6_item : ByteArray := prog_8_method_76_code
def yX6_item : MethodName := ⟨RX6, "item", "(IIIJ)I"⟩
abbrev cX6_copy : ByteArray := prog_8_method_77_code
def yX6_copy : MethodName := ⟨RX6, "copy", "(IIIII)I"⟩
def RJ6 : String := "java/lang/Integer"
abbrev cJ6_bitCount_0f7a4 : ByteArray := prog_9_method_49_code
def yJ6_bitCount_0f7a4 : MethodName := ⟨RJ6, "bitCount", "(I)I"⟩
def RJ9 : String := "java/lang/Math"
abbrev cJ9_max_7cf53 : ByteArray := prog_10_method_65_code
def yJ9_max_7cf53 : MethodName := ⟨RJ9, "max", "(II)I"⟩
abbrev cJ9_min_7cf53 : ByteArray := prog_10_method_69_code
def yJ9_min_7cf53 : MethodName := ⟨RJ9, "min", "(II)I"⟩
def RJ10 : String := "java/lang/System"
def RL : String := "PinAngelsLaw"
abbrev cL_law : ByteArray := code
def yL_law : MethodName := ⟨RL, "law", "([I)Z"⟩
abbrev vwCl : List vw_C := [(RX0, TX0, 5), (RX1, TX1, 11), (RX2, TX2, 5), (RX3, TX3, 3), (RX4, TX4, 3), (RX5, TX5, 9), (RX6, TX6, 16)]
end
section
/-! THE LAYER: a picture of the cells by numbers (zpic), a judgement over it (zW), a row an instruction -/
def tblG : List Cond := lw_tbl.filter goodWord
theorem tbl_mem {w : Cond} (h : w ∈ lw_tbl) (g : goodWord w = true) : w ∈ tblG := List.mem_filter.mpr ⟨h, g⟩
theorem tblG_good {w : Cond} (h : w ∈ tblG) : (w.onTables && w.keeps) = true ∨ ∃ ty, w = .arrayClass ty := good_of_word (List.mem_filter.mp h).2
theorem tblG_in {y : MethodName} {bytes : ByteArray} {maxL : Nat} {ret : Option FieldType} (h : Cond.code y bytes maxL ret ∈ tblG) : GoodIn tblG (Cond.code y bytes maxL ret :: tblG) := fun w hw => by
  rcases List.mem_cons.mp hw with rfl | hw
  · exact ⟨h, tblG_good h⟩
  · exact ⟨hw, tblG_good hw⟩
/-- the state: ints by cell and place, longs by cell and place -/
abbrev zS : Type := (Nat → Nat → Int32) × (Nat → Nat → Int64)
abbrev zF : Type := Option Nat
abbrev zD : Type := (Nat × List zF) ⊕ (Bool × Nat)
abbrev zG : Type := (Nat → Nat) × ClassId × ClassId × va_G
def zfl (ad : Nat → Nat) (u : zS) (c : Nat) : List zF → Nat → List Value
  | [], _ => []
  | some r :: t, i => .ref (ad r) :: zfl ad u c t (i + 1)
  | none :: t, i => .int (u.1 c i) :: zfl ad u c t (i + 1)
def zce (G : zG) (u : zS) (c : Nat) : zD → va_E
  | .inl (k, fs) => .inr (k, zfl G.1 u c fs 0)
  | .inr (false, n) => .inl (G.2.1, n, .inl (u.1 c))
  | .inr (true, n) => .inl (G.2.2.1, n, .inr (.inl (u.2 c)))
def zpc (G : zG) (u : zS) : List zD → Nat → va_W
  | [], _ => []
  | d :: t, c => (G.1 c, zce G u c d) :: zpc G u t (c + 1)
def zpic (ds : List zD) (G : zG) (u : zS) : va_W := zpc G u ds 0
def wI (u : zS) (c i : Nat) (v : Int32) : zS := (fun a j => if a = c then (if j = i then v else u.1 a j) else u.1 a j, u.2)
def wL (u : zS) (c i : Nat) (v : Int64) : zS := (u.1, fun a j => if a = c then (if j = i then v else u.2 a j) else u.2 a j)
def cpI (u : zS) (a sp b dp n : Nat) : zS := (fun c j => if c = b then va_cpy (u.1 a) (u.1 b) sp dp n j else u.1 c j, u.2)
def cpL (u : zS) (a sp b dp n : Nat) : zS := (u.1, fun c j => if c = b then va_cpy (u.2 a) (u.2 b) sp dp n j else u.2 c j)
theorem zfl_congr {ad : Nat → Nat} {u w : zS} {c : Nat} (h : w.1 c = u.1 c) : ∀ (fs : List zF) (i : Nat), zfl ad w c fs i = zfl ad u c fs i
  | [], _ => rfl
  | some r :: t, i => by simp only [zfl]; rw [zfl_congr h t]
  | none :: t, i => by simp only [zfl]; rw [zfl_congr h t, h]
theorem zce_congr {G : zG} {u w : zS} {c : Nat} (h1 : w.1 c = u.1 c) (h2 : w.2 c = u.2 c) (d : zD) : zce G w c d = zce G u c d := by
  match d with
  | .inl (k, fs) => simp only [zce]; rw [zfl_congr h1]
  | .inr (false, n) => simp only [zce]; rw [h1]
  | .inr (true, n) => simp only [zce]; rw [h2]
theorem zpc_get {G : zG} {u : zS} : ∀ (ds : List zD) (c k : Nat) (d : zD), ds[k]? = some d → (zpc G u ds c)[k]? = some (G.1 (c + k), zce G u (c + k) d)
  | [], _, _, _, h => by simp at h
  | e :: t, c, 0, d, h => by
    have : e = d := by simpa using h
    subst this
    rfl
  | e :: t, c, k + 1, d, h => by
    have h2 : t[k]? = some d := by simpa using h
    have := zpc_get (G := G) (u := u) t (c + 1) k d h2
    rw [show c + (k + 1) = c + 1 + k by omega]
    simpa [zpc] using this
theorem zpc_congr {G : zG} {u w : zS} : ∀ (ds : List zD) (c : Nat), (∀ a, c ≤ a → w.1 a = u.1 a ∧ w.2 a = u.2 a) → zpc G w ds c = zpc G u ds c
  | [], _, _ => rfl
  | d :: t, c, h => by
    simp only [zpc]
    rw [zce_congr (h c (Nat.le_refl c)).1 (h c (Nat.le_refl c)).2, zpc_congr t (c + 1) (fun a ha => h a (by omega))]
theorem zpc_set {G : zG} {u w : zS} {e : va_E} : ∀ (ds : List zD) (c k : Nat) (d : zD), ds[k]? = some d → (∀ a, a ≠ c + k → w.1 a = u.1 a ∧ w.2 a = u.2 a) → zce G w (c + k) d = e → (zpc G u ds c).set k (G.1 (c + k), e) = zpc G w ds c
  | [], _, _, _, h, _, _ => by simp at h
  | x :: t, c, 0, d, h, hn, he => by
    have : x = d := by simpa using h
    subst this
    simp only [zpc, List.set_cons_zero]
    rw [zpc_congr (u := u) (w := w) t (c + 1) (fun a ha => hn a (by omega))]
    rw [← he]
    rfl
  | x :: t, c, k + 1, d, h, hn, he => by
    have h2 : t[k]? = some d := by simpa using h
    have e1 : c + (k + 1) = c + 1 + k := by omega
    rw [e1] at hn he ⊢
    simp only [zpc, List.set_cons_succ]
    rw [zpc_set t (c + 1) k d h2 hn he, zce_congr (hn c (by omega)).1 (hn c (by omega)).2]
theorem zpic_get {ds : List zD} {G : zG} {u : zS} {c : Nat} {d : zD} (h : ds[c]? = some d) : (zpic ds G u)[c]? = some (G.1 c, zce G u c d) := by
  have := zpc_get (G := G) (u := u) ds 0 c d h
  rwa [Nat.zero_add] at this
theorem zpic_set {ds : List zD} {G : zG} {u w : zS} {e : va_E} {c : Nat} {d : zD} (h : ds[c]? = some d) (hn : ∀ a, a ≠ c → w.1 a = u.1 a ∧ w.2 a = u.2 a) (he : zce G w c d = e) : (zpic ds G u).set c (G.1 c, e) = zpic ds G w := by
  have := zpc_set (G := G) (u := u) (w := w) (e := e) ds 0 c d h (by rw [Nat.zero_add]; exact hn) (by rw [Nat.zero_add]; exact he)
  rwa [Nat.zero_add] at this
theorem zfl_int {ad : Nat → Nat} {u : zS} {c : Nat} : ∀ (fs : List zF) (i k : Nat), fs[k]? = some none → (zfl ad u c fs i)[k]? = some (.int (u.1 c (i + k)))
  | [], _, _, h => by simp at h
  | x :: t, i, 0, h => by
    have : x = none := by simpa using h
    subst this
    rfl
  | x :: t, i, k + 1, h => by
    have h2 : t[k]? = some none := by simpa using h
    have := zfl_int (ad := ad) (u := u) (c := c) t (i + 1) k h2
    rw [show i + (k + 1) = i + 1 + k by omega]
    cases x <;> simpa [zfl] using this
theorem zfl_ref {ad : Nat → Nat} {u : zS} {c r : Nat} : ∀ (fs : List zF) (i k : Nat), fs[k]? = some (some r) → (zfl ad u c fs i)[k]? = some (.ref (ad r))
  | [], _, _, h => by simp at h
  | x :: t, i, 0, h => by
    have : x = some r := by simpa using h
    subst this
    rfl
  | x :: t, i, k + 1, h => by
    have h2 : t[k]? = some (some r) := by simpa using h
    have := zfl_ref (ad := ad) (u := u) (c := c) t (i + 1) k h2
    cases x <;> simpa [zfl] using this
theorem zfl_len {ad : Nat → Nat} {u : zS} {c : Nat} : ∀ (fs : List zF) (i : Nat), (zfl ad u c fs i).length = fs.length
  | [], _ => rfl
  | x :: t, i => by cases x <;> simp [zfl, zfl_len t]
theorem wI_ne {u : zS} {c i a : Nat} {v : Int32} (h : a ≠ c) : (wI u c i v).1 a = u.1 a := by funext j; simp [wI, h]
theorem wI_at {u : zS} {c i : Nat} {v : Int32} : (wI u c i v).1 c = upd (u.1 c) i v := by funext j; simp [wI, upd]
theorem wL_ne {u : zS} {c i a : Nat} {v : Int64} (h : a ≠ c) : (wL u c i v).2 a = u.2 a := by funext j; simp [wL, h]
theorem wL_at {u : zS} {c i : Nat} {v : Int64} : (wL u c i v).2 c = vp_updL (u.2 c) i v := by funext j; simp [wL, vp_updL]
theorem zfl_lt {ad : Nat → Nat} {u : zS} {c k : Nat} {v : Int32} : ∀ (fs : List zF) (i : Nat), k < i → zfl ad (wI u c k v) c fs i = zfl ad u c fs i
  | [], _, _ => rfl
  | some r :: t, i, h => by simp only [zfl]; rw [zfl_lt t (i + 1) (by omega)]
  | none :: t, i, h => by
    simp only [zfl]
    rw [zfl_lt t (i + 1) (by omega), show (wI u c k v).1 c i = u.1 c i by simp [wI, show i ≠ k by omega]]
theorem zfl_set {ad : Nat → Nat} {u : zS} {c : Nat} {v : Int32} : ∀ (fs : List zF) (i k : Nat), fs[k]? = some none → (zfl ad u c fs i).set k (.int v) = zfl ad (wI u c (i + k) v) c fs i
  | [], _, _, h => by simp at h
  | x :: t, i, 0, h => by
    have : x = none := by simpa using h
    subst this
    simp only [zfl, List.set_cons_zero, Nat.add_zero]
    rw [zfl_lt t (i + 1) (by omega), show (wI u c i v).1 c i = v by simp [wI]]
  | x :: t, i, k + 1, h => by
    have h2 : t[k]? = some none := by simpa using h
    have e := zfl_set (ad := ad) (u := u) (c := c) (v := v) t (i + 1) k h2
    rw [show i + (k + 1) = i + 1 + k by omega]
    cases x with
    | none =>
      simp only [zfl, List.set_cons_succ]
      rw [e, show (wI u c (i + 1 + k) v).1 c i = u.1 c i by simp [wI, show i ≠ i + 1 + k by omega]]
    | some r => simp only [zfl, List.set_cons_succ]; rw [e]
/-- the calls between nest mates that the class makes -/
def zNst : List Cond := [.methodLinkNest RX1 67 yX5_lead RX5, .methodLinkNest RX1 71 yX5_bitOf RX5, .methodLinkNest RX1 75 yX5_holds RX5, .methodLinkNest RX1 86 yX5_greatestCommon RX5, .methodLinkNest RX1 95 yX5_leftBy8 RX5, .methodLinkNest RX2 41 yX5_span RX5]
theorem zNst_in : ∀ w ∈ zNst, w ∈ lw_tbl := by decide +kernel
theorem zNst_warm {s U : State} (hW : s.WarmedH U.vm) (h : ∀ w ∈ zNst, va_Nw w s) : ∀ w ∈ zNst, va_Nw w U := by
  intro w hw
  have h0 := h w hw
  simp only [zNst, List.mem_cons, List.not_mem_nil, or_false] at hw
  rcases hw with rfl | rfl | rfl | rfl | rfl | rfl <;> exact va_Nw.warmM hW h0
theorem zNst_same {s U : State} (hW : s.vm = U.vm) (h : ∀ w ∈ zNst, va_Nw w s) : ∀ w ∈ zNst, va_Nw w U := by
  intro w hw
  have h0 := h w hw
  simp only [zNst, List.mem_cons, List.not_mem_nil, or_false] at hw
  rcases hw with rfl | rfl | rfl | rfl | rfl | rfl <;> exact va_Nw.same rfl hW h0
/-- what is fixed over a method's walk -/
abbrev zX : Type := (Program × Env × State) × (MethodId × Array Value × List Frame × Method × Code) × (Nat → Prop)
abbrev zty (G : zG) : List (ClassId × FieldType) := [(G.2.1, .int), (G.2.2.1, .long)]
def zC (G : zG) (X : zX) (cc : ByteArray) (nL : Nat) (own : String) (ret : Option FieldType) : Prop :=
  X.1.1.tables.exec = Jvm.exec ∧ X.2.1.2.2.2.2.code = cc ∧ X.2.1.2.2.2.2.maxLocals = nL ∧ X.1.2.2.vm.findClass own = some X.2.1.1.cls ∧ (∀ w ∈ tblG, w.before X.2.1.2.1 X.1.2.2 = true) ∧ va_K G.2.2.2 vwCl (zty G) X.1.2.2 ∧ (∀ q, X.1.2.2.heap.size ≤ q → X.2.2 q) ∧ X.2.1.2.2.2.1.sig.returnType = ret ∧ X.2.1.2.2.2.1.locks = false ∧ (∀ w ∈ zNst, va_Nw w X.1.2.2)
def zWd (ds : List zD) (G : zG) (A : Nat → Prop) (u : zS) (t : State) : Prop := va_P G.2.2.2 vwCl (zpic ds G u) t.heap ∧ va_K G.2.2.2 vwCl (zty G) t ∧ va_D A (zpic ds G u)
def zQc (ds : List zD) (G : zG) (A : Nat → Prop) (K : Option Value → zS → Prop) : Array Value → State → Outcome → State → Prop := fun _ st oc t => (∃ (v : Option Value) (u : zS), oc = .returned v ∧ K v u ∧ zWd ds G A u t) ∧ va_F A st t
def zW (ds : List zD) (l : Launch) (R : Room) (G : zG) (X : zX) (K : Option Value → zS → Prop) (u : zS) (pc : Nat) (lv : List (Nat × Value)) (st : List Value) : Prop :=
  ∀ (H : Heap) (locs : List Loc) (ls : Array Slot), va_P G.2.2.2 vwCl (zpic ds G u) H → va_D X.2.2 (zpic ds G u) → va_S X.2.2 X.1.2.2.heap H locs → lv_has ls X.2.1.2.2.2.2.maxLocals lv →
    W X.1.1 l X.1.2.1 R X.1.2.2 X.2.1.1 X.2.1.2.1 X.2.1.2.2.1 X.2.1.2.2.2.1 X.2.1.2.2.2.2 H locs 0 0 (MQ X.2.1.2.2.1 (zQc ds G X.2.2 K) X.2.1.2.1 X.1.2.2 0 0 X.2.2) (F0 X.2.1.1 pc ls st)
def zPre (ds : List zD) (G : zG) (u : zS) (sz : Nat) (U : State) : Prop := U.heap.size = sz ∧ va_P G.2.2.2 vwCl (zpic ds G u) U.heap ∧ va_K G.2.2.2 vwCl (zty G) U ∧ va_D (fun _ => True) (zpic ds G u) ∧ ∀ w ∈ zNst, va_Nw w U
/-- a method's contract: from the picture of u, with these arguments, it answers v and leaves the picture of w -/
def zM (l : Launch) (ds : List zD) (y : MethodName) (bytes : ByteArray) (maxL : Nat) (ret : Option FieldType) (rm : Room) (G : zG) (av : List Value) (u : zS) (v : Option Value) (w : zS) : Prop :=
  ∀ sz : Nat, Met l y (Cond.code y bytes maxL ret :: tblG) rm (va_Pc av (zPre ds G u sz)) (zQc ds G (va_A (zpic ds G u) sz) (fun v2 w2 => v2 = v ∧ w2 = w)) 0 0 (va_A (zpic ds G u) sz)
theorem zM.of {l : Launch} {ds : List zD} {y : MethodName} {bytes : ByteArray} {maxL : Nat} {ret : Option FieldType} {rm : Room} {G : zG} {av : List Value} {u : zS} {v : Option Value} {w : zS} (hy : plainName y.cls = true) (hn : (lg_sl av).length ≤ maxL)
    (body : ∀ X : zX, zC G X bytes maxL y.cls ret → zW ds l rm G X (fun v2 w2 => v2 = v ∧ w2 = w) u 0 (lv_args 0 av) []) : zM l ds y bytes maxL ret rm G av u v w := by
  intro sz
  refine Met.ofW (cc := bytes) (maxL := maxL) (ret := ret) hy rfl ?_
  intro p e s m args below meth c s₁ B hml hv
  obtain ⟨rfl, hsz, hP, hK, hD0, hN⟩ := hv
  subst hsz
  have hts := atoms_spec (ws := Cond.code y bytes maxL ret :: tblG) B.pre
  have hl := lv_entry av (n := maxL) hn
  rw [lg_entry_eq]
  exact body ((p, e, s), (m, av.toArray, below, meth, c), va_A (zpic ds G u) s.heap.size) ⟨B.exec, B.bytes, hml, findClass_of_methodNamed B.named, fun w hw => hts w (List.mem_cons_of_mem _ hw), hK, fun q h => Or.inr h, B.returns, B.notSynchronized, hN⟩ s.heap [] _ hP hD0.self va_S.rf (by rw [show (((p, e, s), (m, av.toArray, below, meth, c), va_A (zpic ds G u) s.heap.size) : zX).2.1.2.2.2.2.maxLocals = maxL from hml]; exact hl)
end
section
/-! ROWS: an instruction a row, over zW -/
section
variable {ds : List zD} {l : Launch} {R : Room} {G : zG} {X : zX} {K : Option Value → zS → Prop} {u : zS} {pc : Nat} {lv : List (Nat × Value)} {st : List Value} {cc : ByteArray} {nL : Nat} {own : String} {ret : Option FieldType}
theorem r_iconst (hC : zC G X cc nL own ret) {n : Int} {v : Int32} (hd : decode cc pc = .ok (.iconst n, 1)) (hv : Int32.ofInt n = v) (k : zW ds l R G X K u (pc + 1) lv (.int v :: st)) : zW ds l R G X K u pc lv (st) := fun H locs ls h1 h2 h3 h4 => lv_iconst hC.1 hC.2.1 hd hv (k H locs ls h1 h2 h3 h4)
theorem r_bipush (hC : zC G X cc nL own ret) {n : Int} {v : Int32} (hd : decode cc pc = .ok (.bipush n, 2)) (hv : (Int8.ofInt n).toInt32 = v) (k : zW ds l R G X K u (pc + 2) lv (.int v :: st)) : zW ds l R G X K u pc lv (st) := fun H locs ls h1 h2 h3 h4 => lv_bipush hC.1 hC.2.1 hd hv (k H locs ls h1 h2 h3 h4)
theorem r_sipush (hC : zC G X cc nL own ret) {n : Int} {v : Int32} (hd : decode cc pc = .ok (.sipush n, 3)) (hv : (Int16.ofInt n).toInt32 = v) (k : zW ds l R G X K u (pc + 3) lv (.int v :: st)) : zW ds l R G X K u pc lv (st) := fun H locs ls h1 h2 h3 h4 => lv_sipush hC.1 hC.2.1 hd hv (k H locs ls h1 h2 h3 h4)
theorem r_lconst (hC : zC G X cc nL own ret) {n : Fin 2} {v : Int64} (hd : decode cc pc = .ok (.lconst n, 1)) (hv : Int64.ofNat (n : Nat) = v) (k : zW ds l R G X K u (pc + 1) lv (.long v :: st)) : zW ds l R G X K u pc lv (st) := fun H locs ls h1 h2 h3 h4 => lv_lconst hC.1 hC.2.1 hd hv (k H locs ls h1 h2 h3 h4)
theorem r_iload_n (hC : zC G X cc nL own ret) {k : Fin 4} {x : Int32} (hd : decode cc pc = .ok (.iload_n k, 1)) (j : Nat) (hj : lv[j]? = some ((k : Nat), .int x)) (k : zW ds l R G X K u (pc + 1) lv (.int x :: st)) : zW ds l R G X K u pc lv (st) := fun H locs ls h1 h2 h3 h4 => lv_iload_n hC.1 hC.2.1 hd rfl (lv_at h4 j hj) (k H locs ls h1 h2 h3 h4)
theorem r_iload (hC : zC G X cc nL own ret) {i : Nat} {x : Int32} (hd : decode cc pc = .ok (.iload i, 2)) (j : Nat) (hj : lv[j]? = some (i, .int x)) (k : zW ds l R G X K u (pc + 2) lv (.int x :: st)) : zW ds l R G X K u pc lv (st) := fun H locs ls h1 h2 h3 h4 => lv_iload hC.1 hC.2.1 hd (lv_at h4 j hj) (k H locs ls h1 h2 h3 h4)
theorem r_lload_n (hC : zC G X cc nL own ret) {k : Fin 4} {x : Int64} (hd : decode cc pc = .ok (.lload_n k, 1)) (j : Nat) (hj : lv[j]? = some ((k : Nat), .long x)) (k : zW ds l R G X K u (pc + 1) lv (.long x :: st)) : zW ds l R G X K u pc lv (st) := fun H locs ls h1 h2 h3 h4 => lv_lload_n hC.1 hC.2.1 hd rfl (lv_at h4 j hj) (k H locs ls h1 h2 h3 h4)
theorem r_lload (hC : zC G X cc nL own ret) {i : Nat} {x : Int64} (hd : decode cc pc = .ok (.lload i, 2)) (j : Nat) (hj : lv[j]? = some (i, .long x)) (k : zW ds l R G X K u (pc + 2) lv (.long x :: st)) : zW ds l R G X K u pc lv (st) := fun H locs ls h1 h2 h3 h4 => lv_lload hC.1 hC.2.1 hd (lv_at h4 j hj) (k H locs ls h1 h2 h3 h4)
theorem r_aload_n (hC : zC G X cc nL own ret) {k : Fin 4} {x : Nat} (hd : decode cc pc = .ok (.aload_n k, 1)) (j : Nat) (hj : lv[j]? = some ((k : Nat), .ref x)) (k : zW ds l R G X K u (pc + 1) lv (.ref x :: st)) : zW ds l R G X K u pc lv (st) := fun H locs ls h1 h2 h3 h4 => lv_aload_n hC.1 hC.2.1 hd rfl (lv_at h4 j hj) (k H locs ls h1 h2 h3 h4)
theorem r_aload (hC : zC G X cc nL own ret) {i : Nat} {x : Nat} (hd : decode cc pc = .ok (.aload i, 2)) (j : Nat) (hj : lv[j]? = some (i, .ref x)) (k : zW ds l R G X K u (pc + 2) lv (.ref x :: st)) : zW ds l R G X K u pc lv (st) := fun H locs ls h1 h2 h3 h4 => lv_aload hC.1 hC.2.1 hd (lv_at h4 j hj) (k H locs ls h1 h2 h3 h4)
theorem r_istore_n (hC : zC G X cc nL own ret) {k : Fin 4} {i : Nat} {x : Int32} {lv' : List (Nat × Value)} (hd : decode cc pc = .ok (.istore_n k, 1)) (hi : (k : Nat) = i) (hn : i < nL) (hl : (i, Value.int x) :: lv.filter (fun q => !(q.1 == i) && !(q.1 + 1 == i && q.2.category == 2)) = lv') (kk : zW ds l R G X K u (pc + 1) lv' st) : zW ds l R G X K u pc lv (Value.int x :: st) := fun H locs ls h1 h2 h3 h4 => lv_istore_n hC.1 hC.2.1 hd hi h4 (by rw [hC.2.2.1]; exact hn) hl (fun ls' h => kk H locs ls' h1 h2 h3 h)
theorem r_istore (hC : zC G X cc nL own ret) {i : Nat} {x : Int32} {lv' : List (Nat × Value)} (hd : decode cc pc = .ok (.istore i, 2)) (hn : i < nL) (hl : (i, Value.int x) :: lv.filter (fun q => !(q.1 == i) && !(q.1 + 1 == i && q.2.category == 2)) = lv') (kk : zW ds l R G X K u (pc + 2) lv' st) : zW ds l R G X K u pc lv (Value.int x :: st) := fun H locs ls h1 h2 h3 h4 => lv_istore hC.1 hC.2.1 hd h4 (by rw [hC.2.2.1]; exact hn) hl (fun ls' h => kk H locs ls' h1 h2 h3 h)
theorem r_lstore_n (hC : zC G X cc nL own ret) {k : Fin 4} {i : Nat} {x : Int64} {lv' : List (Nat × Value)} (hd : decode cc pc = .ok (.lstore_n k, 1)) (hi : (k : Nat) = i) (hn : i + 1 < nL) (hl : (i, Value.long x) :: lv.filter (fun q => !(q.1 == i) && (!(q.1 == i + 1) && !(q.1 + 1 == i && q.2.category == 2))) = lv') (kk : zW ds l R G X K u (pc + 1) lv' st) : zW ds l R G X K u pc lv (Value.long x :: st) := fun H locs ls h1 h2 h3 h4 => lv_lstore_n hC.1 hC.2.1 hd hi h4 (by rw [hC.2.2.1]; exact hn) hl (fun ls' h => kk H locs ls' h1 h2 h3 h)
theorem r_lstore (hC : zC G X cc nL own ret) {i : Nat} {x : Int64} {lv' : List (Nat × Value)} (hd : decode cc pc = .ok (.lstore i, 2)) (hn : i + 1 < nL) (hl : (i, Value.long x) :: lv.filter (fun q => !(q.1 == i) && (!(q.1 == i + 1) && !(q.1 + 1 == i && q.2.category == 2))) = lv') (kk : zW ds l R G X K u (pc + 2) lv' st) : zW ds l R G X K u pc lv (Value.long x :: st) := fun H locs ls h1 h2 h3 h4 => lv_lstore hC.1 hC.2.1 hd h4 (by rw [hC.2.2.1]; exact hn) hl (fun ls' h => kk H locs ls' h1 h2 h3 h)
theorem r_iinc (hC : zC G X cc nL own ret) {i : Nat} {n : Int} {x v : Int32} {lv' : List (Nat × Value)} (hd : decode cc pc = .ok (.iinc i n, 3)) (j : Nat) (hj : lv[j]? = some (i, .int x)) (hv : Int32.ofInt n = v) (hn : i < nL) (hl : (i, Value.int (x + v)) :: lv.filter (fun q => !(q.1 == i) && !(q.1 + 1 == i && q.2.category == 2)) = lv') (kk : zW ds l R G X K u (pc + 3) lv' st) : zW ds l R G X K u pc lv st := fun H locs ls h1 h2 h3 h4 => lv_iinc hC.1 hC.2.1 hd h4 hj (by rw [hv]) (by rw [hC.2.2.1]; exact hn) hl (fun ls' h => kk H locs ls' h1 h2 h3 h)
theorem r_iadd (hC : zC G X cc nL own ret) {x y : Int32} (hd : decode cc pc = .ok (.iadd, 1))  (k : zW ds l R G X K u (pc + 1) lv (.int (x + y) :: st)) : zW ds l R G X K u pc lv (.int y :: .int x :: st) := fun H locs ls h1 h2 h3 h4 => lv_iadd hC.1 hC.2.1 hd  (k H locs ls h1 h2 h3 h4)
theorem r_isub (hC : zC G X cc nL own ret) {x y : Int32} (hd : decode cc pc = .ok (.isub, 1))  (k : zW ds l R G X K u (pc + 1) lv (.int (x - y) :: st)) : zW ds l R G X K u pc lv (.int y :: .int x :: st) := fun H locs ls h1 h2 h3 h4 => lv_isub hC.1 hC.2.1 hd  (k H locs ls h1 h2 h3 h4)
theorem r_imul (hC : zC G X cc nL own ret) {x y : Int32} (hd : decode cc pc = .ok (.imul, 1))  (k : zW ds l R G X K u (pc + 1) lv (.int (x * y) :: st)) : zW ds l R G X K u pc lv (.int y :: .int x :: st) := fun H locs ls h1 h2 h3 h4 => lv_imul hC.1 hC.2.1 hd  (k H locs ls h1 h2 h3 h4)
theorem r_iand (hC : zC G X cc nL own ret) {x y : Int32} (hd : decode cc pc = .ok (.iand, 1))  (k : zW ds l R G X K u (pc + 1) lv (.int (x &&& y) :: st)) : zW ds l R G X K u pc lv (.int y :: .int x :: st) := fun H locs ls h1 h2 h3 h4 => lv_iand hC.1 hC.2.1 hd  (k H locs ls h1 h2 h3 h4)
theorem r_ior (hC : zC G X cc nL own ret) {x y : Int32} (hd : decode cc pc = .ok (.ior, 1))  (k : zW ds l R G X K u (pc + 1) lv (.int (x ||| y) :: st)) : zW ds l R G X K u pc lv (.int y :: .int x :: st) := fun H locs ls h1 h2 h3 h4 => lv_ior hC.1 hC.2.1 hd  (k H locs ls h1 h2 h3 h4)
theorem r_ixor (hC : zC G X cc nL own ret) {x y : Int32} (hd : decode cc pc = .ok (.ixor, 1))  (k : zW ds l R G X K u (pc + 1) lv (.int (x ^^^ y) :: st)) : zW ds l R G X K u pc lv (.int y :: .int x :: st) := fun H locs ls h1 h2 h3 h4 => lv_ixor hC.1 hC.2.1 hd  (k H locs ls h1 h2 h3 h4)
theorem r_ishl (hC : zC G X cc nL own ret) {x y : Int32} (hd : decode cc pc = .ok (.ishl, 1))  (k : zW ds l R G X K u (pc + 1) lv (.int (x <<< (y &&& 31)) :: st)) : zW ds l R G X K u pc lv (.int y :: .int x :: st) := fun H locs ls h1 h2 h3 h4 => lv_ishl hC.1 hC.2.1 hd  (k H locs ls h1 h2 h3 h4)
theorem r_ishr (hC : zC G X cc nL own ret) {x y : Int32} (hd : decode cc pc = .ok (.ishr, 1))  (k : zW ds l R G X K u (pc + 1) lv (.int (x >>> (y &&& 31)) :: st)) : zW ds l R G X K u pc lv (.int y :: .int x :: st) := fun H locs ls h1 h2 h3 h4 => lv_ishr hC.1 hC.2.1 hd  (k H locs ls h1 h2 h3 h4)
theorem r_idiv (hC : zC G X cc nL own ret) {x y : Int32} (hd : decode cc pc = .ok (.idiv, 1)) (hne : ¬ y = 0) (k : zW ds l R G X K u (pc + 1) lv (.int (x / y) :: st)) : zW ds l R G X K u pc lv (.int y :: .int x :: st) := fun H locs ls h1 h2 h3 h4 => lv_idiv hC.1 hC.2.1 hd hne (k H locs ls h1 h2 h3 h4)
theorem r_irem (hC : zC G X cc nL own ret) {x y : Int32} (hd : decode cc pc = .ok (.irem, 1)) (hne : ¬ y = 0) (k : zW ds l R G X K u (pc + 1) lv (.int (x - x / y * y) :: st)) : zW ds l R G X K u pc lv (.int y :: .int x :: st) := fun H locs ls h1 h2 h3 h4 => lv_irem hC.1 hC.2.1 hd hne (k H locs ls h1 h2 h3 h4)
theorem r_iushr (hC : zC G X cc nL own ret) {x y : Int32} (hd : decode cc pc = .ok (.iushr, 1))  (k : zW ds l R G X K u (pc + 1) lv (.int ((x.toUInt32 >>> (y.toUInt32 &&& Int32.toUInt32 31)).toInt32) :: st)) : zW ds l R G X K u pc lv (.int y :: .int x :: st) := fun H locs ls h1 h2 h3 h4 => lv_iushr hC.1 hC.2.1 hd rfl (k H locs ls h1 h2 h3 h4)
theorem r_ladd (hC : zC G X cc nL own ret) {x y : Int64} (hd : decode cc pc = .ok (.ladd, 1))  (k : zW ds l R G X K u (pc + 1) lv (.long (x + y) :: st)) : zW ds l R G X K u pc lv (.long y :: .long x :: st) := fun H locs ls h1 h2 h3 h4 => lv_ladd hC.1 hC.2.1 hd  (k H locs ls h1 h2 h3 h4)
theorem r_lmul (hC : zC G X cc nL own ret) {x y : Int64} (hd : decode cc pc = .ok (.lmul, 1))  (k : zW ds l R G X K u (pc + 1) lv (.long (x * y) :: st)) : zW ds l R G X K u pc lv (.long y :: .long x :: st) := fun H locs ls h1 h2 h3 h4 => lv_lmul hC.1 hC.2.1 hd  (k H locs ls h1 h2 h3 h4)
theorem r_land (hC : zC G X cc nL own ret) {x y : Int64} (hd : decode cc pc = .ok (.land, 1))  (k : zW ds l R G X K u (pc + 1) lv (.long (x &&& y) :: st)) : zW ds l R G X K u pc lv (.long y :: .long x :: st) := fun H locs ls h1 h2 h3 h4 => lv_land hC.1 hC.2.1 hd  (k H locs ls h1 h2 h3 h4)
theorem r_lor (hC : zC G X cc nL own ret) {x y : Int64} (hd : decode cc pc = .ok (.lor, 1))  (k : zW ds l R G X K u (pc + 1) lv (.long (x ||| y) :: st)) : zW ds l R G X K u pc lv (.long y :: .long x :: st) := fun H locs ls h1 h2 h3 h4 => lv_lor hC.1 hC.2.1 hd  (k H locs ls h1 h2 h3 h4)
theorem r_ldiv (hC : zC G X cc nL own ret) {x y : Int64} (hd : decode cc pc = .ok (.ldiv, 1)) (hne : ¬ y = 0) (k : zW ds l R G X K u (pc + 1) lv (.long (x / y) :: st)) : zW ds l R G X K u pc lv (.long y :: .long x :: st) := fun H locs ls h1 h2 h3 h4 => lv_ldiv hC.1 hC.2.1 hd hne (k H locs ls h1 h2 h3 h4)
theorem r_lrem (hC : zC G X cc nL own ret) {x y : Int64} (hd : decode cc pc = .ok (.lrem, 1)) (hne : ¬ y = 0) (k : zW ds l R G X K u (pc + 1) lv (.long (x - x / y * y) :: st)) : zW ds l R G X K u pc lv (.long y :: .long x :: st) := fun H locs ls h1 h2 h3 h4 => lv_lrem hC.1 hC.2.1 hd hne (k H locs ls h1 h2 h3 h4)
theorem r_lshl (hC : zC G X cc nL own ret) {x : Int64} {y : Int32} (hd : decode cc pc = .ok (.lshl, 1))  (k : zW ds l R G X K u (pc + 1) lv (.long (x <<< (y.toInt64 &&& 63)) :: st)) : zW ds l R G X K u pc lv (.int y :: .long x :: st) := fun H locs ls h1 h2 h3 h4 => lv_lshl hC.1 hC.2.1 hd rfl (k H locs ls h1 h2 h3 h4)
theorem r_lcmp (hC : zC G X cc nL own ret) {x y : Int64} (hd : decode cc pc = .ok (.lcmp, 1))  (k : zW ds l R G X K u (pc + 1) lv (.int (lg_cmp x y) :: st)) : zW ds l R G X K u pc lv (.long y :: .long x :: st) := fun H locs ls h1 h2 h3 h4 => W.lcmp hC.1 hC.2.1 hd  (k H locs ls h1 h2 h3 h4)
theorem r_i2l (hC : zC G X cc nL own ret) {x : Int32} (hd : decode cc pc = .ok (.i2l, 1))  (k : zW ds l R G X K u (pc + 1) lv (.long x.toInt64 :: st)) : zW ds l R G X K u pc lv (.int x :: st) := fun H locs ls h1 h2 h3 h4 => lv_i2l hC.1 hC.2.1 hd rfl (k H locs ls h1 h2 h3 h4)
theorem r_l2i (hC : zC G X cc nL own ret) {x : Int64} (hd : decode cc pc = .ok (.l2i, 1))  (k : zW ds l R G X K u (pc + 1) lv (.int x.toInt32 :: st)) : zW ds l R G X K u pc lv (.long x :: st) := fun H locs ls h1 h2 h3 h4 => lv_l2i hC.1 hC.2.1 hd rfl (k H locs ls h1 h2 h3 h4)
theorem r_i2b (hC : zC G X cc nL own ret) {x : Int32} (hd : decode cc pc = .ok (.i2b, 1))  (k : zW ds l R G X K u (pc + 1) lv (.int x.toInt8.toInt32 :: st)) : zW ds l R G X K u pc lv (.int x :: st) := fun H locs ls h1 h2 h3 h4 => lv_i2b hC.1 hC.2.1 hd rfl (k H locs ls h1 h2 h3 h4)
theorem r_i2s (hC : zC G X cc nL own ret) {x : Int32} (hd : decode cc pc = .ok (.i2s, 1))  (k : zW ds l R G X K u (pc + 1) lv (.int x.toInt16.toInt32 :: st)) : zW ds l R G X K u pc lv (.int x :: st) := fun H locs ls h1 h2 h3 h4 => lv_i2s hC.1 hC.2.1 hd rfl (k H locs ls h1 h2 h3 h4)
theorem r_dup (hC : zC G X cc nL own ret) {va : Value} (hd : decode cc pc = .ok (.dup, 1)) (hv : va.category = 1) (k : zW ds l R G X K u (pc + 1) lv (va :: va :: st)) : zW ds l R G X K u pc lv (va :: st) := fun H locs ls h1 h2 h3 h4 => lv_dup hC.1 hC.2.1 hd hv (k H locs ls h1 h2 h3 h4)
theorem r_pop (hC : zC G X cc nL own ret) {va : Value} (hd : decode cc pc = .ok (.pop, 1)) (hv : va.category = 1) (k : zW ds l R G X K u (pc + 1) lv (st)) : zW ds l R G X K u pc lv (va :: st) := fun H locs ls h1 h2 h3 h4 => lv_pop hC.1 hC.2.1 hd hv (k H locs ls h1 h2 h3 h4)
theorem r_dup2 (hC : zC G X cc nL own ret) {va vb : Value} (hd : decode cc pc = .ok (.dup2, 1)) (hv : va.category = 1) (hw : vb.category = 1) (k : zW ds l R G X K u (pc + 1) lv (va :: vb :: va :: vb :: st)) : zW ds l R G X K u pc lv (va :: vb :: st) := fun H locs ls h1 h2 h3 h4 => lv_dup2_11 hC.1 hC.2.1 hd hv hw (k H locs ls h1 h2 h3 h4)
theorem r_goto (hC : zC G X cc nL own ret) {off : Int} {tgt : Nat} (hd : decode cc pc = .ok (.goto off, 3)) (ht : (pc : Int) + off = (tgt : Int)) (k : zW ds l R G X K u tgt lv st) : zW ds l R G X K u pc lv st := fun H locs ls h1 h2 h3 h4 => lv_goto hC.1 hC.2.1 hd ht (k H locs ls h1 h2 h3 h4)
theorem r_if_eq (hC : zC G X cc nL own ret) {x : Int32} {off : Int} {tgt : Nat} (hd : decode cc pc = .ok (.ifCond .eq off, 3)) (ht : (pc : Int) + off = (tgt : Int)) (kt : x = 0 → zW ds l R G X K u tgt lv st) (kf : ¬ x = 0 → zW ds l R G X K u (pc + 3) lv st) : zW ds l R G X K u pc lv (.int x :: st) := fun H locs ls h1 h2 h3 h4 => lv_if_eq hC.1 hC.2.1 hd ht (fun q => kt q H locs ls h1 h2 h3 h4) (fun q => kf q H locs ls h1 h2 h3 h4)
theorem r_if_ne (hC : zC G X cc nL own ret) {x : Int32} {off : Int} {tgt : Nat} (hd : decode cc pc = .ok (.ifCond .ne off, 3)) (ht : (pc : Int) + off = (tgt : Int)) (kt : ¬ x = 0 → zW ds l R G X K u tgt lv st) (kf : x = 0 → zW ds l R G X K u (pc + 3) lv st) : zW ds l R G X K u pc lv (.int x :: st) := fun H locs ls h1 h2 h3 h4 => lv_if_ne hC.1 hC.2.1 hd ht (fun q => kt q H locs ls h1 h2 h3 h4) (fun q => kf q H locs ls h1 h2 h3 h4)
theorem r_if_lt (hC : zC G X cc nL own ret) {x : Int32} {off : Int} {tgt : Nat} (hd : decode cc pc = .ok (.ifCond .lt off, 3)) (ht : (pc : Int) + off = (tgt : Int)) (kt : x < 0 → zW ds l R G X K u tgt lv st) (kf : ¬ x < 0 → zW ds l R G X K u (pc + 3) lv st) : zW ds l R G X K u pc lv (.int x :: st) := fun H locs ls h1 h2 h3 h4 => lv_if_lt hC.1 hC.2.1 hd ht (fun q => kt q H locs ls h1 h2 h3 h4) (fun q => kf q H locs ls h1 h2 h3 h4)
theorem r_if_ge (hC : zC G X cc nL own ret) {x : Int32} {off : Int} {tgt : Nat} (hd : decode cc pc = .ok (.ifCond .ge off, 3)) (ht : (pc : Int) + off = (tgt : Int)) (kt : 0 ≤ x → zW ds l R G X K u tgt lv st) (kf : ¬ 0 ≤ x → zW ds l R G X K u (pc + 3) lv st) : zW ds l R G X K u pc lv (.int x :: st) := fun H locs ls h1 h2 h3 h4 => lv_if_ge hC.1 hC.2.1 hd ht (fun q => kt q H locs ls h1 h2 h3 h4) (fun q => kf q H locs ls h1 h2 h3 h4)
theorem r_if_gt (hC : zC G X cc nL own ret) {x : Int32} {off : Int} {tgt : Nat} (hd : decode cc pc = .ok (.ifCond .gt off, 3)) (ht : (pc : Int) + off = (tgt : Int)) (kt : 0 < x → zW ds l R G X K u tgt lv st) (kf : ¬ 0 < x → zW ds l R G X K u (pc + 3) lv st) : zW ds l R G X K u pc lv (.int x :: st) := fun H locs ls h1 h2 h3 h4 => lv_if_gt hC.1 hC.2.1 hd ht (fun q => kt q H locs ls h1 h2 h3 h4) (fun q => kf q H locs ls h1 h2 h3 h4)
theorem r_if_le (hC : zC G X cc nL own ret) {x : Int32} {off : Int} {tgt : Nat} (hd : decode cc pc = .ok (.ifCond .le off, 3)) (ht : (pc : Int) + off = (tgt : Int)) (kt : x ≤ 0 → zW ds l R G X K u tgt lv st) (kf : ¬ x ≤ 0 → zW ds l R G X K u (pc + 3) lv st) : zW ds l R G X K u pc lv (.int x :: st) := fun H locs ls h1 h2 h3 h4 => lv_if_le hC.1 hC.2.1 hd ht (fun q => kt q H locs ls h1 h2 h3 h4) (fun q => kf q H locs ls h1 h2 h3 h4)
theorem r_icmp_eq (hC : zC G X cc nL own ret) {x y : Int32} {off : Int} {tgt : Nat} (hd : decode cc pc = .ok (.if_icmp .eq off, 3)) (ht : (pc : Int) + off = (tgt : Int)) (kt : x = y → zW ds l R G X K u tgt lv st) (kf : ¬ x = y → zW ds l R G X K u (pc + 3) lv st) : zW ds l R G X K u pc lv (.int y :: .int x :: st) := fun H locs ls h1 h2 h3 h4 => lv_icmp_eq hC.1 hC.2.1 hd ht (fun q => kt q H locs ls h1 h2 h3 h4) (fun q => kf q H locs ls h1 h2 h3 h4)
theorem r_icmp_ne (hC : zC G X cc nL own ret) {x y : Int32} {off : Int} {tgt : Nat} (hd : decode cc pc = .ok (.if_icmp .ne off, 3)) (ht : (pc : Int) + off = (tgt : Int)) (kt : ¬ x = y → zW ds l R G X K u tgt lv st) (kf : x = y → zW ds l R G X K u (pc + 3) lv st) : zW ds l R G X K u pc lv (.int y :: .int x :: st) := fun H locs ls h1 h2 h3 h4 => lv_icmp_ne hC.1 hC.2.1 hd ht (fun q => kt q H locs ls h1 h2 h3 h4) (fun q => kf q H locs ls h1 h2 h3 h4)
theorem r_icmp_lt (hC : zC G X cc nL own ret) {x y : Int32} {off : Int} {tgt : Nat} (hd : decode cc pc = .ok (.if_icmp .lt off, 3)) (ht : (pc : Int) + off = (tgt : Int)) (kt : x < y → zW ds l R G X K u tgt lv st) (kf : ¬ x < y → zW ds l R G X K u (pc + 3) lv st) : zW ds l R G X K u pc lv (.int y :: .int x :: st) := fun H locs ls h1 h2 h3 h4 => lv_icmp_lt hC.1 hC.2.1 hd ht (fun q => kt q H locs ls h1 h2 h3 h4) (fun q => kf q H locs ls h1 h2 h3 h4)
theorem r_icmp_ge (hC : zC G X cc nL own ret) {x y : Int32} {off : Int} {tgt : Nat} (hd : decode cc pc = .ok (.if_icmp .ge off, 3)) (ht : (pc : Int) + off = (tgt : Int)) (kt : y ≤ x → zW ds l R G X K u tgt lv st) (kf : ¬ y ≤ x → zW ds l R G X K u (pc + 3) lv st) : zW ds l R G X K u pc lv (.int y :: .int x :: st) := fun H locs ls h1 h2 h3 h4 => lv_icmp_ge hC.1 hC.2.1 hd ht (fun q => kt q H locs ls h1 h2 h3 h4) (fun q => kf q H locs ls h1 h2 h3 h4)
theorem r_icmp_gt (hC : zC G X cc nL own ret) {x y : Int32} {off : Int} {tgt : Nat} (hd : decode cc pc = .ok (.if_icmp .gt off, 3)) (ht : (pc : Int) + off = (tgt : Int)) (kt : y < x → zW ds l R G X K u tgt lv st) (kf : ¬ y < x → zW ds l R G X K u (pc + 3) lv st) : zW ds l R G X K u pc lv (.int y :: .int x :: st) := fun H locs ls h1 h2 h3 h4 => lv_icmp_gt hC.1 hC.2.1 hd ht (fun q => kt q H locs ls h1 h2 h3 h4) (fun q => kf q H locs ls h1 h2 h3 h4)
theorem r_icmp_le (hC : zC G X cc nL own ret) {x y : Int32} {off : Int} {tgt : Nat} (hd : decode cc pc = .ok (.if_icmp .le off, 3)) (ht : (pc : Int) + off = (tgt : Int)) (kt : x ≤ y → zW ds l R G X K u tgt lv st) (kf : ¬ x ≤ y → zW ds l R G X K u (pc + 3) lv st) : zW ds l R G X K u pc lv (.int y :: .int x :: st) := fun H locs ls h1 h2 h3 h4 => lv_icmp_le hC.1 hC.2.1 hd ht (fun q => kt q H locs ls h1 h2 h3 h4) (fun q => kf q H locs ls h1 h2 h3 h4)
theorem r_ldc (hC : zC G X cc nL own ret) {idx : Nat} {v : Int32} (hm : Cond.constant own idx v ∈ tblG) (hd : decode cc pc = .ok (.ldc idx, 2)) (k : zW ds l R G X K u (pc + 2) lv (.int v :: st)) : zW ds l R G X K u pc lv st := fun H locs ls h1 h2 h3 h4 => lv_ldc hC.1 hC.2.1 hC.2.2.2.1 (hC.2.2.2.2.1 _ hm) hd (k H locs ls h1 h2 h3 h4)
theorem r_ldcw (hC : zC G X cc nL own ret) {idx : Nat} {v : Int32} (hm : Cond.constant own idx v ∈ tblG) (hd : decode cc pc = .ok (.ldc_w idx, 3)) (k : zW ds l R G X K u (pc + 3) lv (.int v :: st)) : zW ds l R G X K u pc lv st := fun H locs ls h1 h2 h3 h4 => lv_ldcw hC.1 hC.2.1 hC.2.2.2.1 (hC.2.2.2.2.1 _ hm) hd (k H locs ls h1 h2 h3 h4)
theorem r_ldc2 (hC : zC G X cc nL own ret) {idx : Nat} {v : Int64} (hm : Cond.constantLong own idx v ∈ tblG) (hd : decode cc pc = .ok (.ldc2_w idx, 3)) (k : zW ds l R G X K u (pc + 3) lv (.long v :: st)) : zW ds l R G X K u pc lv st := fun H locs ls h1 h2 h3 h4 => lv_ldc2 hC.1 hC.2.1 hC.2.2.2.1 (hC.2.2.2.2.1 _ hm) hd (k H locs ls h1 h2 h3 h4)
theorem r_tsIn (hC : zC G X cc nL own ret) {dflt lo hi : Int} {offs : Array Int} {len : Nat} {x q : Int32} {off : Int} {tgt : Nat} (hd : decode cc pc = .ok (.tableswitch dflt lo hi offs, len)) (hq : x = q) (hh : ¬ q.toInt < lo ∧ ¬ hi < q.toInt ∧ offs[(q.toInt - lo).toNat]? = some off) (ht : (pc : Int) + off = (tgt : Int)) (k : zW ds l R G X K u tgt lv st) : zW ds l R G X K u pc lv (.int x :: st) := by
  subst hq
  exact fun H locs ls h1 h2 h3 h4 => lv_tableIn hC.1 hC.2.1 hd hh.1 hh.2.1 hh.2.2 ht (k H locs ls h1 h2 h3 h4)
theorem r_tsOut (hC : zC G X cc nL own ret) {dflt lo hi : Int} {offs : Array Int} {len : Nat} {x : Int32} {tgt : Nat} (hd : decode cc pc = .ok (.tableswitch dflt lo hi offs, len)) (hh : x.toInt < lo ∨ hi < x.toInt) (ht : (pc : Int) + dflt = (tgt : Int)) (k : zW ds l R G X K u tgt lv st) : zW ds l R G X K u pc lv (.int x :: st) := fun H locs ls h1 h2 h3 h4 => lv_tableOut hC.1 hC.2.1 hd hh ht (k H locs ls h1 h2 h3 h4)
theorem r_lsw (hC : zC G X cc nL own ret) {dflt : Int} {ps : Array (Int × Int)} {len : Nat} {x : Int32} {off : Int} {tgt : Nat} (hd : decode cc pc = .ok (.lookupswitch dflt ps, len)) (hp : (ps.toList.zip (ps.toList.drop 1)).all (fun (a, next) => a.1 < next.1) = true) (ho : Op.lookupswitch.offset ps.toList dflt x.toInt = off) (ht : (pc : Int) + off = (tgt : Int)) (k : zW ds l R G X K u tgt lv st) : zW ds l R G X K u pc lv (.int x :: st) := fun H locs ls h1 h2 h3 h4 => lv_lookup hC.1 hC.2.1 hd hp ho ht (k H locs ls h1 h2 h3 h4)
/-- the locals in another order, or fewer of them -/
theorem r_loc {lv' : List (Nat × Value)} (ks : List Nat) (hl : lv_pick lv ks = lv') (k : zW ds l R G X K u pc lv' st) : zW ds l R G X K u pc lv st := fun H locs ls h1 h2 h3 h4 => k H locs ls h1 h2 h3 (lv_sub h4 ks hl)
theorem r_iret (hC : zC G X cc nL own (some .int)) {v : Int32} (hd : decode cc pc = .ok (.ireturn, 1)) (hk : K (some (.int v)) u) : zW ds l R G X K u pc lv [.int v] := fun H locs ls h1 h2 h3 h4 =>
  W.iret hC.1 hC.2.1 hC.2.2.2.2.2.2.2.1 (fun t ht hW => ⟨⟨_, _, rfl, hk, by rw [ht]; exact h1, va_K.moved hW.alike hC.2.2.2.2.2.1, h2⟩, h3.F ht⟩) h3.2.2 hd hC.2.2.2.2.2.2.2.2.1
theorem r_zret (hC : zC G X cc nL own (some .boolean)) {v : Int32} (hn : narrow .boolean (.int v) = .int v) (hd : decode cc pc = .ok (.ireturn, 1)) (hk : K (some (.int v)) u) : zW ds l R G X K u pc lv [.int v] := fun H locs ls h1 h2 h3 h4 =>
  W.zret hC.1 hC.2.1 hC.2.2.2.2.2.2.2.1 hn (fun t ht hW => ⟨⟨_, _, rfl, hk, by rw [ht]; exact h1, va_K.moved hW.alike hC.2.2.2.2.2.1, h2⟩, h3.F ht⟩) h3.2.2 hd hC.2.2.2.2.2.2.2.2.1
theorem r_lret (hC : zC G X cc nL own (some .long)) {v : Int64} (hd : decode cc pc = .ok (.lreturn, 1)) (hk : K (some (.long v)) u) : zW ds l R G X K u pc lv [.long v] := fun H locs ls h1 h2 h3 h4 =>
  W.lret hC.1 hC.2.1 hC.2.2.2.2.2.2.2.1 (fun t ht hW => ⟨⟨_, _, rfl, hk, by rw [ht]; exact h1, va_K.moved hW.alike hC.2.2.2.2.2.1, h2⟩, h3.F ht⟩) h3.2.2 hd hC.2.2.2.2.2.2.2.2.1
theorem r_vret (hC : zC G X cc nL own none) (hd : decode cc pc = .ok (.return_, 1)) (hk : K none u) : zW ds l R G X K u pc lv [] := fun H locs ls h1 h2 h3 h4 =>
  W.vret hC.1 hC.2.1 hC.2.2.2.2.2.2.2.1 (fun t ht hW => ⟨⟨_, _, rfl, hk, by rw [ht]; exact h1, va_K.moved hW.alike hC.2.2.2.2.2.1, h2⟩, h3.F ht⟩) h3.2.2 hd hC.2.2.2.2.2.2.2.2.1
/-- a field as the tables have it, read -/
def zFd (own : String) (idx ci k : Nat) : Prop := ∃ (C : String) (T : u_T) (N : Nat), vwCl[ci]? = some (C, T, N) ∧ (∀ w ∈ u_ws C T N, w ∈ tblG) ∧ k < N ∧ Cond.fieldLink own idx (T k).1 (T k).2.1 (T k).2.2.1 ∈ tblG
/-- a field as the tables have it, written -/
def zFp (own : String) (idx ci k : Nat) (ty : FieldType) : Prop := ∃ (C : String) (T : u_T) (N : Nat) (ty0 : Nat → FieldType), vwCl[ci]? = some (C, T, N) ∧ (∀ w ∈ u_ws C T N, w ∈ tblG) ∧ k < N ∧ Cond.fieldLink own idx (T k).1 (T k).2.1 (T k).2.2.1 ∈ tblG ∧ (∀ k, k < N → parseFieldDescriptor (T k).2.2.1 = some (ty0 k)) ∧ (∀ a, a < N → ∀ b, b < N → a ≠ b → (T a).2.1 ≠ (T b).2.1) ∧ (T k).2.2.2 = false ∧ parseFieldDescriptor (T k).2.2.1 = some ty
theorem r_geti (hC : zC G X cc nL own ret) {c ci k idx : Nat} {fs : List zF} (hF : zFd own idx ci k) (hr : ds[c]? = some (.inl (ci, fs))) (hf : fs[k]? = some none) (hd : decode cc pc = .ok (.getfield idx, 3)) (kk : zW ds l R G X K u (pc + 3) lv (.int (u.1 c k) :: st)) : zW ds l R G X K u pc lv (.ref (G.1 c) :: st) := by
  obtain ⟨C, T, N, f1, f2, f3, f4⟩ := hF
  intro H locs ls h1 h2 h3 h4
  exact va_get hC.1 hC.2.1 hC.2.2.2.2.1 f2 hC.2.2.2.1 hC.2.2.2.2.2.1 h1 c (zpic_get hr) f1 k f3 (hC.2.2.2.2.1 _ f4) (fun _ h9 => h9) (by have := zfl_int (ad := G.1) (u := u) (c := c) fs 0 k hf; rwa [Nat.zero_add] at this) hd (kk H locs ls h1 h2 h3 h4)
theorem r_getr (hC : zC G X cc nL own ret) {c ci k idx r : Nat} {fs : List zF} (hF : zFd own idx ci k) (hr : ds[c]? = some (.inl (ci, fs))) (hf : fs[k]? = some (some r)) (hd : decode cc pc = .ok (.getfield idx, 3)) (kk : zW ds l R G X K u (pc + 3) lv (.ref (G.1 r) :: st)) : zW ds l R G X K u pc lv (.ref (G.1 c) :: st) := by
  obtain ⟨C, T, N, f1, f2, f3, f4⟩ := hF
  intro H locs ls h1 h2 h3 h4
  exact va_get hC.1 hC.2.1 hC.2.2.2.2.1 f2 hC.2.2.2.1 hC.2.2.2.2.2.1 h1 c (zpic_get hr) f1 k f3 (hC.2.2.2.2.1 _ f4) (fun _ h9 => h9) (zfl_ref (ad := G.1) (u := u) (c := c) fs 0 k hf) hd (kk H locs ls h1 h2 h3 h4)
theorem r_putz (hC : zC G X cc nL own ret) {c ci k idx : Nat} {fs : List zF} {v : Int32} {ty : FieldType} (hF : zFp own idx ci k ty) (hn : narrow ty (.int v) = .int v) (hfit : fits ty (.int v) = true) (hr : ds[c]? = some (.inl (ci, fs))) (hf : fs[k]? = some none) (hd : decode cc pc = .ok (.putfield idx, 3)) (kk : zW ds l R G X K (wI u c k v) (pc + 3) lv st) : zW ds l R G X K u pc lv (.int v :: .ref (G.1 c) :: st) := by
  obtain ⟨C, T, N, ty0, f1, f2, f3, f4, f5, f6, f7, f8⟩ := hF
  intro H locs ls h1 h2 h3 h4
  refine va_put hC.1 hC.2.1 hC.2.2.2.2.1 f2 ty0 f5 f6 hC.2.2.2.1 hC.2.2.2.2.2.1 h1 h2 h3 c (zpic_get hr) f1 k f3 (hC.2.2.2.2.1 _ f4) (fun _ h9 => h9) f7 f8 hn hfit (by rw [zfl_len]; exact (List.getElem?_eq_some_iff.mp hf).1) hd (fun H1 locs1 g1 g2 g3 => ?_)
  have hs := zfl_set (ad := G.1) (u := u) (c := c) (v := v) fs 0 k hf
  rw [Nat.zero_add] at hs
  have e : (zpic ds G u).set c (G.1 c, .inr (ci, (zfl G.1 u c fs 0).set k (.int v))) = zpic ds G (wI u c k v) := zpic_set hr (fun a ha => ⟨wI_ne ha, rfl⟩) (by simp only [zce]; rw [hs])
  rw [e] at g1 g2
  exact kk H1 locs1 ls g1 g2 g3 h4
theorem r_puti (hC : zC G X cc nL own ret) {c ci k idx : Nat} {fs : List zF} {v : Int32} (hF : zFp own idx ci k .int) (hr : ds[c]? = some (.inl (ci, fs))) (hf : fs[k]? = some none) (hd : decode cc pc = .ok (.putfield idx, 3)) (kk : zW ds l R G X K (wI u c k v) (pc + 3) lv st) : zW ds l R G X K u pc lv (.int v :: .ref (G.1 c) :: st) := r_putz hC hF rfl rfl hr hf hd kk
theorem r_iald (hC : zC G X cc nL own ret) {c n : Nat} {i : Int32} (hr : ds[c]? = some (.inr (false, n))) (hin : vp_in i n) (hd : decode cc pc = .ok (.iaload, 1)) (kk : zW ds l R G X K u (pc + 1) lv (.int (u.1 c i.toNatClampNeg) :: st)) : zW ds l R G X K u pc lv (.int i :: .ref (G.1 c) :: st) := fun H locs ls h1 h2 h3 h4 =>
  va_iald hC.1 hC.2.1 hC.2.2.2.2.2.1 h1 c 0 (zpic_get hr) rfl hin hd (kk H locs ls h1 h2 h3 h4)
theorem r_lald (hC : zC G X cc nL own ret) {c n : Nat} {i : Int32} (hr : ds[c]? = some (.inr (true, n))) (hin : vp_in i n) (hd : decode cc pc = .ok (.laload, 1)) (kk : zW ds l R G X K u (pc + 1) lv (.long (u.2 c i.toNatClampNeg) :: st)) : zW ds l R G X K u pc lv (.int i :: .ref (G.1 c) :: st) := fun H locs ls h1 h2 h3 h4 =>
  va_lald hC.1 hC.2.1 hC.2.2.2.2.2.1 h1 c 1 (zpic_get hr) rfl hin hd (kk H locs ls h1 h2 h3 h4)
theorem r_iast (hC : zC G X cc nL own ret) {c n : Nat} {i v : Int32} (hr : ds[c]? = some (.inr (false, n))) (hin : vp_in i n) (hd : decode cc pc = .ok (.iastore, 1)) (kk : zW ds l R G X K (wI u c i.toNatClampNeg v) (pc + 1) lv st) : zW ds l R G X K u pc lv (.int v :: .int i :: .ref (G.1 c) :: st) := by
  intro H locs ls h1 h2 h3 h4
  refine va_iast hC.1 hC.2.1 hC.2.2.2.2.2.1 h1 h2 h3 c 0 (zpic_get hr) rfl hin hd (fun H1 locs1 g1 g2 g3 => ?_)
  have e : (zpic ds G u).set c (G.1 c, .inl (G.2.1, n, .inl (upd (u.1 c) i.toNatClampNeg v))) = zpic ds G (wI u c i.toNatClampNeg v) := zpic_set hr (fun a ha => ⟨wI_ne ha, rfl⟩) (by simp only [zce]; rw [wI_at])
  rw [e] at g1 g2
  exact kk H1 locs1 ls g1 g2 g3 h4
theorem r_last (hC : zC G X cc nL own ret) {c n : Nat} {i : Int32} {v : Int64} (hr : ds[c]? = some (.inr (true, n))) (hin : vp_in i n) (hd : decode cc pc = .ok (.lastore, 1)) (kk : zW ds l R G X K (wL u c i.toNatClampNeg v) (pc + 1) lv st) : zW ds l R G X K u pc lv (.long v :: .int i :: .ref (G.1 c) :: st) := by
  intro H locs ls h1 h2 h3 h4
  refine va_last hC.1 hC.2.1 hC.2.2.2.2.2.1 h1 h2 h3 c 1 (zpic_get hr) rfl hin hd (fun H1 locs1 g1 g2 g3 => ?_)
  have e : (zpic ds G u).set c (G.1 c, .inl (G.2.2.1, n, .inr (.inl (vp_updL (u.2 c) i.toNatClampNeg v)))) = zpic ds G (wL u c i.toNatClampNeg v) := zpic_set hr (fun a ha => ⟨rfl, wL_ne ha⟩) (by simp only [zce]; rw [wL_at])
  first | rw [e] at g1 g2 | (rw [show ∀ f : Nat → Int64, (fun j => if j = i.toNatClampNeg then v else f j) = vp_updL f i.toNatClampNeg v from fun _ => rfl, e] at g1 g2)
  exact kk H1 locs1 ls g1 g2 g3 h4
def cpOk (sp dp n : Int32) (n0 n1 : Nat) : Prop := ¬ sp < 0 ∧ ¬ dp < 0 ∧ ¬ n < 0 ∧ sp.toNatClampNeg + n.toNatClampNeg ≤ n0 ∧ dp.toNatClampNeg + n.toNatClampNeg ≤ n1
def zAc (own : String) (idx : Nat) : Prop := Cond.methodLink own idx arraycopyName ∈ tblG ∧ Cond.native arraycopyName ∈ tblG ∧ Cond.static arraycopyName ∈ tblG ∧ Cond.initialized "java/lang/System" ∈ tblG
theorem r_cpi (hC : zC G X cc nL own ret) {a b n0 n1 idx : Nat} {sp dp n : Int32} (hL : zAc own idx) (hr0 : ds[a]? = some (.inr (false, n0))) (hr1 : ds[b]? = some (.inr (false, n1))) (ho : cpOk sp dp n n0 n1) (hR : 1 ≤ R.frames ∧ (st.map fun v => v.category).sum + 18 ≤ R.locals) (hd : decode cc pc = .ok (.invokestatic idx, 3)) (kk : zW ds l R G X K (cpI u a sp.toNatClampNeg b dp.toNatClampNeg n.toNatClampNeg) (pc + 3) lv st) : zW ds l R G X K u pc lv (.int n :: .int dp :: .ref (G.1 b) :: .int sp :: .ref (G.1 a) :: st) := by
  obtain ⟨k1, k2, k3, k4⟩ := hL
  obtain ⟨o1, o2, o3, o4, o5⟩ := ho
  intro H locs ls h1 h2 h3 h4
  refine va_copyi hC.1 hC.2.1 h4.1.symm hC.2.2.2.1 (hC.2.2.2.2.1 _ k1) (hC.2.2.2.2.1 _ k2) (hC.2.2.2.2.1 _ k3) (hC.2.2.2.2.1 _ k4) hC.2.2.2.2.2.1 h1 h2 h3 a b 0 0 (zpic_get hr0) (zpic_get hr1) rfl rfl rfl o1 o2 o3 o4 o5 (fun _ _ => rfl) hR.1 hR.2 hd (fun H1 locs1 g1 g2 g3 => ?_)
  have e : (zpic ds G u).set b (G.1 b, .inl (G.2.1, n1, .inl (va_cpy (u.1 a) (u.1 b) sp.toNatClampNeg dp.toNatClampNeg n.toNatClampNeg))) = zpic ds G (cpI u a sp.toNatClampNeg b dp.toNatClampNeg n.toNatClampNeg) := zpic_set hr1 (fun q hq => ⟨by funext j; simp [cpI, hq], rfl⟩) (by simp only [zce]; congr 4; funext j; simp [cpI])
  rw [e] at g1 g2
  exact kk H1 locs1 ls g1 g2 g3 h4
theorem r_cpl (hC : zC G X cc nL own ret) {a b n0 n1 idx : Nat} {sp dp n : Int32} (hL : zAc own idx) (hr0 : ds[a]? = some (.inr (true, n0))) (hr1 : ds[b]? = some (.inr (true, n1))) (ho : cpOk sp dp n n0 n1) (hR : 1 ≤ R.frames ∧ (st.map fun v => v.category).sum + 18 ≤ R.locals) (hd : decode cc pc = .ok (.invokestatic idx, 3)) (kk : zW ds l R G X K (cpL u a sp.toNatClampNeg b dp.toNatClampNeg n.toNatClampNeg) (pc + 3) lv st) : zW ds l R G X K u pc lv (.int n :: .int dp :: .ref (G.1 b) :: .int sp :: .ref (G.1 a) :: st) := by
  obtain ⟨k1, k2, k3, k4⟩ := hL
  obtain ⟨o1, o2, o3, o4, o5⟩ := ho
  intro H locs ls h1 h2 h3 h4
  refine va_copyl hC.1 hC.2.1 h4.1.symm hC.2.2.2.1 (hC.2.2.2.2.1 _ k1) (hC.2.2.2.2.1 _ k2) (hC.2.2.2.2.1 _ k3) (hC.2.2.2.2.1 _ k4) hC.2.2.2.2.2.1 h1 h2 h3 a b 1 1 (zpic_get hr0) (zpic_get hr1) rfl rfl rfl o1 o2 o3 o4 o5 (fun _ _ => rfl) hR.1 hR.2 hd (fun H1 locs1 g1 g2 g3 => ?_)
  have e : (zpic ds G u).set b (G.1 b, .inl (G.2.2.1, n1, .inr (.inl (va_cpy (u.2 a) (u.2 b) sp.toNatClampNeg dp.toNatClampNeg n.toNatClampNeg)))) = zpic ds G (cpL u a sp.toNatClampNeg b dp.toNatClampNeg n.toNatClampNeg) := zpic_set hr1 (fun q hq => ⟨rfl, by funext j; simp [cpL, hq]⟩) (by simp only [zce]; congr 5; funext j; simp [cpL])
  rw [e] at g1 g2
  exact kk H1 locs1 ls g1 g2 g3 h4
/-- a method as the tables have it -/
def zNm (y : MethodName) (n : Nat) : Prop := y.cls ≠ "java/lang/invoke/MethodHandle" ∧ y.cls ≠ "java/lang/invoke/VarHandle" ∧ (parseMethodDescriptor y.desc).map (fun d => d.parameters.length) = some n
def zYv (y : MethodName) (bytes : ByteArray) (maxL : Nat) (yr : Option FieldType) (n ci : Nat) : Prop := Cond.code y bytes maxL yr ∈ tblG ∧ Cond.instanceMethod y ∈ tblG ∧ Cond.selects y.cls y y ∈ tblG ∧ Cond.initialized y.cls ∈ tblG ∧ zNm y n ∧ (vwCl[ci]?).map (fun q => q.1) = some y.cls
def zYs (y : MethodName) (bytes : ByteArray) (maxL : Nat) (yr : Option FieldType) (n : Nat) : Prop := Cond.code y bytes maxL yr ∈ tblG ∧ Cond.static y ∈ tblG ∧ Cond.initialized y.cls ∈ tblG ∧ zNm y n
def zRm (rm R : Room) (maxL : Nat) : Prop := rm.frames + 1 ≤ R.frames ∧ 8 + (maxL + 11) + rm.locals ≤ R.locals ∧ rm.cells = 0 ∧ rm.slots = 0
theorem zPre_blind {av : List Value} {sz : Nat} {w : zS} : FrameBlind (va_Pc av (zPre ds G w sz)) := fun a U g mk q => by
  obtain ⟨q0, q1, qP, qK, qD, qN⟩ := q
  exact ⟨q0, q1, qP, va_K.moved (u := U) (U := U.calling g mk a) (Vm.Alike.refl U.vm) qK, qD, zNst_same (s := U) (U := U.calling g mk a) rfl qN⟩
theorem zPre_at (hC : zC G X cc nL own ret) {av : List Value} {H : Heap} (h1 : va_P G.2.2.2 vwCl (zpic ds G u) H) (h2 : va_D X.2.2 (zpic ds G u)) (U : State) (hU : U.heap = H) (hW : X.1.2.2.WarmedH U.vm) : va_Pc av (zPre ds G u H.size) av.toArray U := ⟨rfl, by rw [hU], by rw [hU]; exact h1, va_K.moved hW.alike hC.2.2.2.2.2.1, h2.weaken (fun _ _ _ _ => trivial), zNst_warm hW hC.2.2.2.2.2.2.2.2.2⟩
theorem z_after (hC : zC G X cc nL own ret) {H : Heap} {locs : List Loc} {ls : Array Slot} {w : zS} {v : Option Value} {rest st0 : List Value} {a : Array Value} (h2 : va_D X.2.2 (zpic ds G u)) (h3 : va_S X.2.2 X.1.2.2.heap H locs) (h4 : lv_has ls X.2.1.2.2.2.2.maxLocals lv)
    (run : va_Run X.1.1 l X.1.2.1 R X.1.2.2 X.2.1.1 X.2.1.2.1 X.2.1.2.2.1 X.2.1.2.2.2.1 X.2.1.2.2.2.2 H locs 0 0 0 0 (F0 X.2.1.1 pc ls st0) rest (zQc ds G (va_A (zpic ds G u) H.size) (fun v2 w2 => v2 = v ∧ w2 = w) a) (va_A (zpic ds G u) H.size))
    (kk : zW ds l R G X K w (pc + 3) lv (v.toList ++ rest)) :
    W X.1.1 l X.1.2.1 R X.1.2.2 X.2.1.1 X.2.1.2.1 X.2.1.2.2.1 X.2.1.2.2.2.1 X.2.1.2.2.2.2 H locs 0 0 (MQ X.2.1.2.2.1 (zQc ds G X.2.2 K) X.2.1.2.1 X.1.2.2 0 0 X.2.2) (F0 X.2.1.1 pc ls st0) := by
  have hF : ∀ q, va_A (zpic ds G u) H.size q → X.2.2 q := by
    intro q hq
    rcases hq with ⟨k, e, hk⟩ | hq
    · exact h2.2 k _ hk
    · exact hC.2.2.2.2.2.2.1 q (Nat.le_trans h3.1 hq)
  intro T hT XX
  obtain ⟨v', st₀, t, T', L, h0, X', hL, e1, e2, ⟨⟨v2, u2, hv, ⟨q1, q2⟩, hP', hK', hD'⟩, hz, hk⟩, stp⟩ := run T hT XX
  have hv' : v' = v := by
    have := Outcome.returned.inj hv
    rw [this, q1]
  subst hv'
  subst q2
  rw [h0] at hz hk
  have hS : va_S X.2.2 X.1.2.2.heap T'.heap (locs ++ L) := ⟨Nat.le_trans h3.1 (by rw [e1]; exact hz), fun q g1 g2 => by rw [e1, hk q (Nat.lt_of_lt_of_le g1 h3.1) (fun z => g2 (hF q z))]; exact h3.2.1 q g1 g2, fun q hq => by
      rcases List.mem_append.mp hq with h | h
      · exact h3.2.2 q h
      · exact hF _ (hL q h)⟩
  obtain ⟨t2, a1, b1⟩ := kk T'.heap (locs ++ L) ls (by rw [e1]; exact hP') (hD'.weaken (fun _ q _ h => hF q.1 h)) hS h4 T' rfl X'
  exact ⟨t2, stp t2 a1, b1⟩
theorem r_cv (hC : zC G X cc nL own ret) {y : MethodName} {bytes : ByteArray} {maxL n idx c ci : Nat} {yr : Option FieldType} {rm : Room} {As rest : List Value} {v : Option Value} {w : zS} {fs : List zF}
    (hM : zM l ds y bytes maxL yr rm G (.ref (G.1 c) :: As) u v w) (hY : zYv y bytes maxL yr n ci) (hL : Cond.methodLink own idx y ∈ tblG) (hr : ds[c]? = some (.inl (ci, fs))) (hR : zRm rm R maxL) (hn : As.length = n) (hst : st = As.reverse ++ .ref (G.1 c) :: rest) (hw : (rest.map fun v => v.category).sum ≤ 8) (hd : decode cc pc = .ok (.invokevirtual idx, 3)) (kk : zW ds l R G X K w (pc + 3) lv (v.toList ++ rest)) : zW ds l R G X K u pc lv st := by
  obtain ⟨y1, y2, y3, y4, y5, y6⟩ := hY
  obtain ⟨r1, r2, r3, r4⟩ := hR
  intro H locs ls h1 h2 h3 h4
  obtain ⟨q, hq1, hq2⟩ : ∃ q, vwCl[ci]? = some q ∧ q.1 = y.cls := by
    cases hq : vwCl[ci]? with
    | none => rw [hq] at y6; cases y6
    | some q => rw [hq] at y6; exact ⟨q, rfl, Option.some.inj y6⟩
  have hrecv := va_recv hC.2.2.2.2.2.1 h1 hq1 (zpic_get (G := G) (u := u) hr)
  rw [hq2] at hrecv
  refine z_after hC h2 h3 h4 (va_runV (C := y.cls) (As := As) (rest := rest) (cc := cc) (nL := nL) (own := own) (Ts := tblG) (bytes := bytes) (maxL := maxL) (ret := yr) (n := n) (index := idx) (b := G.1 c) ⟨hC.1, hC.2.1, hC.2.2.1, hC.2.2.2.1, hC.2.2.2.2.1⟩ (hM H.size) ⟨callB_of (ws' := tblG) n hC.2.2.2.2.1 (tblG_in y1) rfl r3 r4 (hC.2.2.2.2.1 _ y4) (hC.2.2.2.2.1 _ hL) y5 ⟨r1, r2⟩, hC.2.2.2.2.1 _ y2, hC.2.2.2.2.1 _ y3⟩ ⟨zPre_blind, hrecv, fun U hU hW => zPre_at hC h1 h2 U hU hW⟩ rfl hn (h4.1.trans hC.2.2.1) hst (lv_room hw) hd ⟨Nat.zero_le _, Nat.zero_le _⟩) kk
theorem r_cs (hC : zC G X cc nL own ret) {y : MethodName} {bytes : ByteArray} {maxL n idx : Nat} {yr : Option FieldType} {rm : Room} {As rest : List Value} {v : Option Value} {w : zS}
    (hM : zM l ds y bytes maxL yr rm G As u v w) (hY : zYs y bytes maxL yr n) (hL : Cond.methodLink own idx y ∈ tblG) (hR : zRm rm R maxL) (hn : As.length = n) (hst : st = As.reverse ++ rest) (hw : (rest.map fun v => v.category).sum ≤ 8) (hd : decode cc pc = .ok (.invokestatic idx, 3)) (kk : zW ds l R G X K w (pc + 3) lv (v.toList ++ rest)) : zW ds l R G X K u pc lv st := by
  obtain ⟨y1, y2, y3, y5⟩ := hY
  obtain ⟨r1, r2, r3, r4⟩ := hR
  intro H locs ls h1 h2 h3 h4
  refine z_after hC h2 h3 h4 (va_runS (As := As) (rest := rest) (cc := cc) (nL := nL) (own := own) (Ts := tblG) (bytes := bytes) (maxL := maxL) (ret := yr) (n := n) (index := idx) ⟨hC.1, hC.2.1, hC.2.2.1, hC.2.2.2.1, hC.2.2.2.2.1⟩ (hM H.size) ⟨callB_of (ws' := tblG) n hC.2.2.2.2.1 (tblG_in y1) rfl r3 r4 (hC.2.2.2.2.1 _ y3) (hC.2.2.2.2.1 _ hL) y5 ⟨r1, r2⟩, hC.2.2.2.2.1 _ y2⟩ ⟨zPre_blind, fun U hU hW => zPre_at hC h1 h2 U hU hW⟩ rfl hn (h4.1.trans hC.2.2.1) hst (lv_room hw) hd ⟨Nat.zero_le _, Nat.zero_le _⟩) kk
theorem r_csn (hC : zC G X cc nL own ret) {y : MethodName} {bytes : ByteArray} {maxL n idx : Nat} {yr : Option FieldType} {rm : Room} {As rest : List Value} {v : Option Value} {w : zS} {host : String}
    (hM : zM l ds y bytes maxL yr rm G As u v w) (hY : zYs y bytes maxL yr n) (hL : Cond.methodLinkNest own idx y host ∈ zNst) (hR : zRm rm R maxL) (hn : As.length = n) (hst : st = As.reverse ++ rest) (hw : (rest.map fun v => v.category).sum ≤ 8) (hd : decode cc pc = .ok (.invokestatic idx, 3)) (kk : zW ds l R G X K w (pc + 3) lv (v.toList ++ rest)) : zW ds l R G X K u pc lv st := by
  obtain ⟨y1, y2, y3, y5⟩ := hY
  obtain ⟨r1, r2, r3, r4⟩ := hR
  intro H locs ls h1 h2 h3 h4
  refine z_after hC h2 h3 h4 (va_runSN (As := As) (rest := rest) (cc := cc) (nL := nL) (own := own) (Ts := tblG) (bytes := bytes) (maxL := maxL) (ret := yr) (n := n) (index := idx) (host := host) ⟨hC.1, hC.2.1, hC.2.2.1, hC.2.2.2.1, hC.2.2.2.2.1⟩ (hM H.size) ⟨va_cnB (ws' := tblG) n hC.2.2.2.2.1 (tblG_in y1) rfl r3 r4 (hC.2.2.2.2.2.2.2.2.2 _ hL) (hC.2.2.2.2.1 _ y3) y5 ⟨r1, r2⟩, hC.2.2.2.2.1 _ y2, trivial⟩ ⟨zPre_blind, fun U hU hW => zPre_at hC h1 h2 U hU hW⟩ rfl hn (h4.1.trans hC.2.2.1) hst (lv_room hw) hd ⟨Nat.zero_le _, Nat.zero_le _⟩) kk
end
/-! Option: a guard, a bind -/
def og {α : Type} (c : Bool) (x : Option α) : Option α := if c = true then x else none
def ob {α β : Type} (x : Option α) (f : α → Option β) : Option β := match x with
  | none => none
  | some a => f a
def inB (i : Int32) (n : Nat) : Bool := !(decide (i < 0)) && decide (i.toNatClampNeg < n)
def neB (y : Int32) : Bool := !(decide (y = 0))
def neL (y : Int64) : Bool := !(decide (y = 0))
def zzB (v : Int32) : Bool := decide (v = 0) || decide (v = 1)
def cpB (sp dp n : Int32) (n0 n1 : Nat) : Bool := !(decide (sp < 0)) && !(decide (dp < 0)) && !(decide (n < 0)) && decide (sp.toNatClampNeg + n.toNatClampNeg ≤ n0) && decide (dp.toNatClampNeg + n.toNatClampNeg ≤ n1)
theorem og_some {α : Type} {c : Bool} {x : Option α} {y : α} (h : og c x = some y) : c = true ∧ x = some y := by
  unfold og at h
  split at h
  · exact ⟨‹_›, h⟩
  · cases h
theorem ob_some {α β : Type} {x : Option α} {f : α → Option β} {y : β} (h : ob x f = some y) : ∃ a, x = some a ∧ f a = some y := by
  cases x with
  | none => cases h
  | some a => exact ⟨a, rfl, h⟩
theorem inB_in {i : Int32} {n : Nat} (h : inB i n = true) : vp_in i n := by
  simp only [inB, Bool.and_eq_true, Bool.not_eq_true', decide_eq_false_iff_not, decide_eq_true_eq] at h
  intro q
  rcases q with q | q
  · exact h.1 q
  · exact absurd h.2 (Nat.not_lt.mpr q)
theorem og_in {α : Type} {i : Int32} {n : Nat} {x : Option α} {y : α} (h : og (inB i n) x = some y) : vp_in i n ∧ x = some y := ⟨inB_in (og_some h).1, (og_some h).2⟩
theorem og_ne {α : Type} {i : Int32} {x : Option α} {y : α} (h : og (neB i) x = some y) : ¬ i = 0 ∧ x = some y := ⟨by simpa [neB] using (og_some h).1, (og_some h).2⟩
theorem og_nl {α : Type} {i : Int64} {x : Option α} {y : α} (h : og (neL i) x = some y) : ¬ i = 0 ∧ x = some y := ⟨by simpa [neL] using (og_some h).1, (og_some h).2⟩
theorem zz_nar {v : Int32} (h : v = 0 ∨ v = 1) : narrow .boolean (.int v) = .int v := by rcases h with rfl | rfl <;> rfl
theorem og_zz {α : Type} {v : Int32} {x : Option α} {y : α} (h : og (zzB v) x = some y) : narrow .boolean (.int v) = .int v ∧ x = some y := ⟨zz_nar (by simpa [zzB] using (og_some h).1), (og_some h).2⟩
theorem og_cp {α : Type} {sp dp n : Int32} {n0 n1 : Nat} {x : Option α} {y : α} (h : og (cpB sp dp n n0 n1) x = some y) : cpOk sp dp n n0 n1 ∧ x = some y := ⟨by
  have := (og_some h).1
  simp only [cpB, Bool.and_eq_true, Bool.not_eq_true', decide_eq_false_iff_not, decide_eq_true_eq] at this
  exact ⟨this.1.1.1.1, this.1.1.1.2, this.1.1.2, this.1.2, this.2⟩, (og_some h).2⟩
theorem tbl1 {w : Cond} (i : Nat) (h : tables_1[i]? = some w) (g : goodWord w = true) : w ∈ tblG := tbl_mem (List.mem_append_right _ (List.mem_of_getElem? h)) g
end
section
theorem iX0 : ∀ w ∈ wsX00, w ∈ tblG := fun w hw => tbl_mem ((by decide +kernel : ∀ w ∈ wsX00, w ∈ lw_tbl) w hw) ((by decide +kernel : ∀ w ∈ wsX00, goodWord w = true) w hw)
theorem iX1 : ∀ w ∈ wsX10, w ∈ tblG := fun w hw => tbl_mem ((by decide +kernel : ∀ w ∈ wsX10, w ∈ lw_tbl) w hw) ((by decide +kernel : ∀ w ∈ wsX10, goodWord w = true) w hw)
theorem iX2 : ∀ w ∈ wsX20, w ∈ tblG := fun w hw => tbl_mem ((by decide +kernel : ∀ w ∈ wsX20, w ∈ lw_tbl) w hw) ((by decide +kernel : ∀ w ∈ wsX20, goodWord w = true) w hw)
theorem iX3 : ∀ w ∈ wsX30, w ∈ tblG := fun w hw => tbl_mem ((by decide +kernel : ∀ w ∈ wsX30, w ∈ lw_tbl) w hw) ((by decide +kernel : ∀ w ∈ wsX30, goodWord w = true) w hw)
theorem iX4 : ∀ w ∈ wsX40, w ∈ tblG := fun w hw => tbl_mem ((by decide +kernel : ∀ w ∈ wsX40, w ∈ lw_tbl) w hw) ((by decide +kernel : ∀ w ∈ wsX40, goodWord w = true) w hw)
theorem iX5 : ∀ w ∈ wsX50, w ∈ tblG := fun w hw => tbl_mem ((by decide +kernel : ∀ w ∈ wsX50, w ∈ lw_tbl) w hw) ((by decide +kernel : ∀ w ∈ wsX50, goodWord w = true) w hw)
theorem iX6 : ∀ w ∈ wsX60, w ∈ tblG := fun w hw => tbl_mem ((by decide +kernel : ∀ w ∈ wsX60, w ∈ lw_tbl) w hw) ((by decide +kernel : ∀ w ∈ wsX60, goodWord w = true) w hw)
theorem fl_RX0_9 : Cond.fieldLink RX0 9 (TX0 0).1 (TX0 0).2.1 (TX0 0).2.2.1 ∈ tblG := tbl1 31 (by decide +kernel) rfl
theorem fd_RX0_9 : zFd RX0 9 0 0 := ⟨RX0, TX0, 5, rfl, iX0, by decide, fl_RX0_9⟩
theorem fl_RX0_15 : Cond.fieldLink RX0 15 (TX0 1).1 (TX0 1).2.1 (TX0 1).2.2.1 ∈ tblG := tbl1 32 (by decide +kernel) rfl
theorem fd_RX0_15 : zFd RX0 15 0 1 := ⟨RX0, TX0, 5, rfl, iX0, by decide, fl_RX0_15⟩
theorem fl_RX0_18 : Cond.fieldLink RX0 18 (TX0 2).1 (TX0 2).2.1 (TX0 2).2.2.1 ∈ tblG := tbl1 33 (by decide +kernel) rfl
theorem fd_RX0_18 : zFd RX0 18 0 2 := ⟨RX0, TX0, 5, rfl, iX0, by decide, fl_RX0_18⟩
theorem fl_RX0_31 : Cond.fieldLink RX0 31 (TX0 3).1 (TX0 3).2.1 (TX0 3).2.2.1 ∈ tblG := tbl1 34 (by decide +kernel) rfl
theorem fd_RX0_31 : zFd RX0 31 0 3 := ⟨RX0, TX0, 5, rfl, iX0, by decide, fl_RX0_31⟩
theorem fp_RX0_31 : zFp RX0 31 0 3 .int := ⟨RX0, TX0, 5, tyX0, rfl, iX0, by decide, fl_RX0_31, tyX0_ok, nmX0, rfl, by decide +kernel⟩
theorem fl_RX0_21 : Cond.fieldLink RX0 21 (TX0 4).1 (TX0 4).2.1 (TX0 4).2.2.1 ∈ tblG := tbl1 35 (by decide +kernel) rfl
theorem fd_RX0_21 : zFd RX0 21 0 4 := ⟨RX0, TX0, 5, rfl, iX0, by decide, fl_RX0_21⟩
theorem fp_RX0_21 : zFp RX0 21 0 4 .int := ⟨RX0, TX0, 5, tyX0, rfl, iX0, by decide, fl_RX0_21, tyX0_ok, nmX0, rfl, by decide +kernel⟩
theorem fl_RX5_163 : Cond.fieldLink RX5 163 (TX0 4).1 (TX0 4).2.1 (TX0 4).2.2.1 ∈ tblG := tbl1 36 (by decide +kernel) rfl
theorem fd_RX5_163 : zFd RX5 163 0 4 := ⟨RX0, TX0, 5, rfl, iX0, by decide, fl_RX5_163⟩
theorem fp_RX5_163 : zFp RX5 163 0 4 .int := ⟨RX0, TX0, 5, tyX0, rfl, iX0, by decide, fl_RX5_163, tyX0_ok, nmX0, rfl, by decide +kernel⟩
theorem fl_RX1_9 : Cond.fieldLink RX1 9 (TX1 0).1 (TX1 0).2.1 (TX1 0).2.2.1 ∈ tblG := tbl1 49 (by decide +kernel) rfl
theorem fd_RX1_9 : zFd RX1 9 1 0 := ⟨RX1, TX1, 11, rfl, iX1, by decide, fl_RX1_9⟩
theorem fl_RX0_34 : Cond.fieldLink RX0 34 (TX1 0).1 (TX1 0).2.1 (TX1 0).2.2.1 ∈ tblG := tbl1 50 (by decide +kernel) rfl
theorem fd_RX0_34 : zFd RX0 34 1 0 := ⟨RX1, TX1, 11, rfl, iX1, by decide, fl_RX0_34⟩
theorem fl_RX5_124 : Cond.fieldLink RX5 124 (TX1 0).1 (TX1 0).2.1 (TX1 0).2.2.1 ∈ tblG := tbl1 51 (by decide +kernel) rfl
theorem fd_RX5_124 : zFd RX5 124 1 0 := ⟨RX1, TX1, 11, rfl, iX1, by decide, fl_RX5_124⟩
theorem fl_RX1_15 : Cond.fieldLink RX1 15 (TX1 1).1 (TX1 1).2.1 (TX1 1).2.2.1 ∈ tblG := tbl1 52 (by decide +kernel) rfl
theorem fd_RX1_15 : zFd RX1 15 1 1 := ⟨RX1, TX1, 11, rfl, iX1, by decide, fl_RX1_15⟩
theorem fl_RX5_103 : Cond.fieldLink RX5 103 (TX1 1).1 (TX1 1).2.1 (TX1 1).2.2.1 ∈ tblG := tbl1 53 (by decide +kernel) rfl
theorem fd_RX5_103 : zFd RX5 103 1 1 := ⟨RX1, TX1, 11, rfl, iX1, by decide, fl_RX5_103⟩
theorem fl_RX1_18 : Cond.fieldLink RX1 18 (TX1 2).1 (TX1 2).2.1 (TX1 2).2.2.1 ∈ tblG := tbl1 54 (by decide +kernel) rfl
theorem fd_RX1_18 : zFd RX1 18 1 2 := ⟨RX1, TX1, 11, rfl, iX1, by decide, fl_RX1_18⟩
theorem fl_RX5_106 : Cond.fieldLink RX5 106 (TX1 2).1 (TX1 2).2.1 (TX1 2).2.2.1 ∈ tblG := tbl1 55 (by decide +kernel) rfl
theorem fd_RX5_106 : zFd RX5 106 1 2 := ⟨RX1, TX1, 11, rfl, iX1, by decide, fl_RX5_106⟩
theorem fl_RX1_21 : Cond.fieldLink RX1 21 (TX1 3).1 (TX1 3).2.1 (TX1 3).2.2.1 ∈ tblG := tbl1 56 (by decide +kernel) rfl
theorem fd_RX1_21 : zFd RX1 21 1 3 := ⟨RX1, TX1, 11, rfl, iX1, by decide, fl_RX1_21⟩
theorem fl_RX1_24 : Cond.fieldLink RX1 24 (TX1 4).1 (TX1 4).2.1 (TX1 4).2.2.1 ∈ tblG := tbl1 57 (by decide +kernel) rfl
theorem fd_RX1_24 : zFd RX1 24 1 4 := ⟨RX1, TX1, 11, rfl, iX1, by decide, fl_RX1_24⟩
theorem fl_RX1_30 : Cond.fieldLink RX1 30 (TX1 5).1 (TX1 5).2.1 (TX1 5).2.2.1 ∈ tblG := tbl1 58 (by decide +kernel) rfl
theorem fd_RX1_30 : zFd RX1 30 1 5 := ⟨RX1, TX1, 11, rfl, iX1, by decide, fl_RX1_30⟩
theorem fl_RX5_70 : Cond.fieldLink RX5 70 (TX1 5).1 (TX1 5).2.1 (TX1 5).2.2.1 ∈ tblG := tbl1 59 (by decide +kernel) rfl
theorem fd_RX5_70 : zFd RX5 70 1 5 := ⟨RX1, TX1, 11, rfl, iX1, by decide, fl_RX5_70⟩
theorem fl_RX1_38 : Cond.fieldLink RX1 38 (TX1 6).1 (TX1 6).2.1 (TX1 6).2.2.1 ∈ tblG := tbl1 60 (by decide +kernel) rfl
theorem fd_RX1_38 : zFd RX1 38 1 6 := ⟨RX1, TX1, 11, rfl, iX1, by decide, fl_RX1_38⟩
theorem fp_RX1_38 : zFp RX1 38 1 6 .int := ⟨RX1, TX1, 11, tyX1, rfl, iX1, by decide, fl_RX1_38, tyX1_ok, nmX1, rfl, by decide +kernel⟩
theorem fl_RX5_58 : Cond.fieldLink RX5 58 (TX1 6).1 (TX1 6).2.1 (TX1 6).2.2.1 ∈ tblG := tbl1 61 (by decide +kernel) rfl
theorem fd_RX5_58 : zFd RX5 58 1 6 := ⟨RX1, TX1, 11, rfl, iX1, by decide, fl_RX5_58⟩
theorem fp_RX5_58 : zFp RX5 58 1 6 .int := ⟨RX1, TX1, 11, tyX1, rfl, iX1, by decide, fl_RX5_58, tyX1_ok, nmX1, rfl, by decide +kernel⟩
theorem fl_RX1_41 : Cond.fieldLink RX1 41 (TX1 7).1 (TX1 7).2.1 (TX1 7).2.2.1 ∈ tblG := tbl1 62 (by decide +kernel) rfl
theorem fd_RX1_41 : zFd RX1 41 1 7 := ⟨RX1, TX1, 11, rfl, iX1, by decide, fl_RX1_41⟩
theorem fp_RX1_41 : zFp RX1 41 1 7 .int := ⟨RX1, TX1, 11, tyX1, rfl, iX1, by decide, fl_RX1_41, tyX1_ok, nmX1, rfl, by decide +kernel⟩
theorem fl_RX2_28 : Cond.fieldLink RX2 28 (TX1 7).1 (TX1 7).2.1 (TX1 7).2.2.1 ∈ tblG := tbl1 63 (by decide +kernel) rfl
theorem fd_RX2_28 : zFd RX2 28 1 7 := ⟨RX1, TX1, 11, rfl, iX1, by decide, fl_RX2_28⟩
theorem fp_RX2_28 : zFp RX2 28 1 7 .int := ⟨RX1, TX1, 11, tyX1, rfl, iX1, by decide, fl_RX2_28, tyX1_ok, nmX1, rfl, by decide +kernel⟩
theorem fl_RX5_87 : Cond.fieldLink RX5 87 (TX1 7).1 (TX1 7).2.1 (TX1 7).2.2.1 ∈ tblG := tbl1 64 (by decide +kernel) rfl
theorem fd_RX5_87 : zFd RX5 87 1 7 := ⟨RX1, TX1, 11, rfl, iX1, by decide, fl_RX5_87⟩
theorem fp_RX5_87 : zFp RX5 87 1 7 .int := ⟨RX1, TX1, 11, tyX1, rfl, iX1, by decide, fl_RX5_87, tyX1_ok, nmX1, rfl, by decide +kernel⟩
theorem fl_RX4_62 : Cond.fieldLink RX4 62 (TX1 7).1 (TX1 7).2.1 (TX1 7).2.2.1 ∈ tblG := tbl1 65 (by decide +kernel) rfl
theorem fd_RX4_62 : zFd RX4 62 1 7 := ⟨RX1, TX1, 11, rfl, iX1, by decide, fl_RX4_62⟩
theorem fp_RX4_62 : zFp RX4 62 1 7 .int := ⟨RX1, TX1, 11, tyX1, rfl, iX1, by decide, fl_RX4_62, tyX1_ok, nmX1, rfl, by decide +kernel⟩
theorem fl_RX1_44 : Cond.fieldLink RX1 44 (TX1 8).1 (TX1 8).2.1 (TX1 8).2.2.1 ∈ tblG := tbl1 66 (by decide +kernel) rfl
theorem fd_RX1_44 : zFd RX1 44 1 8 := ⟨RX1, TX1, 11, rfl, iX1, by decide, fl_RX1_44⟩
theorem fp_RX1_44 : zFp RX1 44 1 8 .int := ⟨RX1, TX1, 11, tyX1, rfl, iX1, by decide, fl_RX1_44, tyX1_ok, nmX1, rfl, by decide +kernel⟩
theorem fl_RX5_97 : Cond.fieldLink RX5 97 (TX1 8).1 (TX1 8).2.1 (TX1 8).2.2.1 ∈ tblG := tbl1 67 (by decide +kernel) rfl
theorem fd_RX5_97 : zFd RX5 97 1 8 := ⟨RX1, TX1, 11, rfl, iX1, by decide, fl_RX5_97⟩
theorem fp_RX5_97 : zFp RX5 97 1 8 .int := ⟨RX1, TX1, 11, tyX1, rfl, iX1, by decide, fl_RX5_97, tyX1_ok, nmX1, rfl, by decide +kernel⟩
theorem fl_RX4_68 : Cond.fieldLink RX4 68 (TX1 8).1 (TX1 8).2.1 (TX1 8).2.2.1 ∈ tblG := tbl1 68 (by decide +kernel) rfl
theorem fd_RX4_68 : zFd RX4 68 1 8 := ⟨RX1, TX1, 11, rfl, iX1, by decide, fl_RX4_68⟩
theorem fp_RX4_68 : zFp RX4 68 1 8 .int := ⟨RX1, TX1, 11, tyX1, rfl, iX1, by decide, fl_RX4_68, tyX1_ok, nmX1, rfl, by decide +kernel⟩
theorem fl_RX1_47 : Cond.fieldLink RX1 47 (TX1 9).1 (TX1 9).2.1 (TX1 9).2.2.1 ∈ tblG := tbl1 69 (by decide +kernel) rfl
theorem fd_RX1_47 : zFd RX1 47 1 9 := ⟨RX1, TX1, 11, rfl, iX1, by decide, fl_RX1_47⟩
theorem fp_RX1_47 : zFp RX1 47 1 9 .int := ⟨RX1, TX1, 11, tyX1, rfl, iX1, by decide, fl_RX1_47, tyX1_ok, nmX1, rfl, by decide +kernel⟩
theorem fl_RX0_37 : Cond.fieldLink RX0 37 (TX1 9).1 (TX1 9).2.1 (TX1 9).2.2.1 ∈ tblG := tbl1 70 (by decide +kernel) rfl
theorem fd_RX0_37 : zFd RX0 37 1 9 := ⟨RX1, TX1, 11, rfl, iX1, by decide, fl_RX0_37⟩
theorem fp_RX0_37 : zFp RX0 37 1 9 .int := ⟨RX1, TX1, 11, tyX1, rfl, iX1, by decide, fl_RX0_37, tyX1_ok, nmX1, rfl, by decide +kernel⟩
theorem fl_RX5_154 : Cond.fieldLink RX5 154 (TX1 9).1 (TX1 9).2.1 (TX1 9).2.2.1 ∈ tblG := tbl1 71 (by decide +kernel) rfl
theorem fd_RX5_154 : zFd RX5 154 1 9 := ⟨RX1, TX1, 11, rfl, iX1, by decide, fl_RX5_154⟩
theorem fp_RX5_154 : zFp RX5 154 1 9 .int := ⟨RX1, TX1, 11, tyX1, rfl, iX1, by decide, fl_RX5_154, tyX1_ok, nmX1, rfl, by decide +kernel⟩
theorem fl_RX1_34 : Cond.fieldLink RX1 34 (TX1 10).1 (TX1 10).2.1 (TX1 10).2.2.1 ∈ tblG := tbl1 72 (by decide +kernel) rfl
theorem fd_RX1_34 : zFd RX1 34 1 10 := ⟨RX1, TX1, 11, rfl, iX1, by decide, fl_RX1_34⟩
theorem fp_RX1_34 : zFp RX1 34 1 10 .int := ⟨RX1, TX1, 11, tyX1, rfl, iX1, by decide, fl_RX1_34, tyX1_ok, nmX1, rfl, by decide +kernel⟩
theorem fl_RX0_40 : Cond.fieldLink RX0 40 (TX1 10).1 (TX1 10).2.1 (TX1 10).2.2.1 ∈ tblG := tbl1 73 (by decide +kernel) rfl
theorem fd_RX0_40 : zFd RX0 40 1 10 := ⟨RX1, TX1, 11, rfl, iX1, by decide, fl_RX0_40⟩
theorem fp_RX0_40 : zFp RX0 40 1 10 .int := ⟨RX1, TX1, 11, tyX1, rfl, iX1, by decide, fl_RX0_40, tyX1_ok, nmX1, rfl, by decide +kernel⟩
theorem fl_RX5_147 : Cond.fieldLink RX5 147 (TX1 10).1 (TX1 10).2.1 (TX1 10).2.2.1 ∈ tblG := tbl1 74 (by decide +kernel) rfl
theorem fd_RX5_147 : zFd RX5 147 1 10 := ⟨RX1, TX1, 11, rfl, iX1, by decide, fl_RX5_147⟩
theorem fp_RX5_147 : zFp RX5 147 1 10 .int := ⟨RX1, TX1, 11, tyX1, rfl, iX1, by decide, fl_RX5_147, tyX1_ok, nmX1, rfl, by decide +kernel⟩
theorem fl_RX4_11 : Cond.fieldLink RX4 11 (TX4 0).1 (TX4 0).2.1 (TX4 0).2.2.1 ∈ tblG := tbl1 104 (by decide +kernel) rfl
theorem fd_RX4_11 : zFd RX4 11 4 0 := ⟨RX4, TX4, 3, rfl, iX4, by decide, fl_RX4_11⟩
theorem fl_RX4_15 : Cond.fieldLink RX4 15 (TX4 1).1 (TX4 1).2.1 (TX4 1).2.2.1 ∈ tblG := tbl1 105 (by decide +kernel) rfl
theorem fd_RX4_15 : zFd RX4 15 4 1 := ⟨RX4, TX4, 3, rfl, iX4, by decide, fl_RX4_15⟩
theorem fp_RX4_15 : zFp RX4 15 4 1 .int := ⟨RX4, TX4, 3, tyX4, rfl, iX4, by decide, fl_RX4_15, tyX4_ok, nmX4, rfl, by decide +kernel⟩
theorem fl_RX4_19 : Cond.fieldLink RX4 19 (TX4 2).1 (TX4 2).2.1 (TX4 2).2.2.1 ∈ tblG := tbl1 106 (by decide +kernel) rfl
theorem fd_RX4_19 : zFd RX4 19 4 2 := ⟨RX4, TX4, 3, rfl, iX4, by decide, fl_RX4_19⟩
theorem fp_RX4_19 : zFp RX4 19 4 2 .int := ⟨RX4, TX4, 3, tyX4, rfl, iX4, by decide, fl_RX4_19, tyX4_ok, nmX4, rfl, by decide +kernel⟩
theorem fl_RX5_141 : Cond.fieldLink RX5 141 (TX4 2).1 (TX4 2).2.1 (TX4 2).2.2.1 ∈ tblG := tbl1 107 (by decide +kernel) rfl
theorem fd_RX5_141 : zFd RX5 141 4 2 := ⟨RX4, TX4, 3, rfl, iX4, by decide, fl_RX5_141⟩
theorem fp_RX5_141 : zFp RX5 141 4 2 .int := ⟨RX4, TX4, 3, tyX4, rfl, iX4, by decide, fl_RX5_141, tyX4_ok, nmX4, rfl, by decide +kernel⟩
theorem fl_RX3_9 : Cond.fieldLink RX3 9 (TX3 0).1 (TX3 0).2.1 (TX3 0).2.2.1 ∈ tblG := tbl1 121 (by decide +kernel) rfl
theorem fd_RX3_9 : zFd RX3 9 3 0 := ⟨RX3, TX3, 3, rfl, iX3, by decide, fl_RX3_9⟩
theorem fl_RX5_274 : Cond.fieldLink RX5 274 (TX3 0).1 (TX3 0).2.1 (TX3 0).2.2.1 ∈ tblG := tbl1 122 (by decide +kernel) rfl
theorem fd_RX5_274 : zFd RX5 274 3 0 := ⟨RX3, TX3, 3, rfl, iX3, by decide, fl_RX5_274⟩
theorem fl_RX3_15 : Cond.fieldLink RX3 15 (TX3 1).1 (TX3 1).2.1 (TX3 1).2.2.1 ∈ tblG := tbl1 123 (by decide +kernel) rfl
theorem fd_RX3_15 : zFd RX3 15 3 1 := ⟨RX3, TX3, 3, rfl, iX3, by decide, fl_RX3_15⟩
theorem fl_RX3_18 : Cond.fieldLink RX3 18 (TX3 2).1 (TX3 2).2.1 (TX3 2).2.2.1 ∈ tblG := tbl1 124 (by decide +kernel) rfl
theorem fd_RX3_18 : zFd RX3 18 3 2 := ⟨RX3, TX3, 3, rfl, iX3, by decide, fl_RX3_18⟩
theorem fl_RX2_9 : Cond.fieldLink RX2 9 (TX2 0).1 (TX2 0).2.1 (TX2 0).2.2.1 ∈ tblG := tbl1 139 (by decide +kernel) rfl
theorem fd_RX2_9 : zFd RX2 9 2 0 := ⟨RX2, TX2, 5, rfl, iX2, by decide, fl_RX2_9⟩
theorem fl_RX2_15 : Cond.fieldLink RX2 15 (TX2 1).1 (TX2 1).2.1 (TX2 1).2.2.1 ∈ tblG := tbl1 140 (by decide +kernel) rfl
theorem fd_RX2_15 : zFd RX2 15 2 1 := ⟨RX2, TX2, 5, rfl, iX2, by decide, fl_RX2_15⟩
theorem fl_RX2_18 : Cond.fieldLink RX2 18 (TX2 2).1 (TX2 2).2.1 (TX2 2).2.2.1 ∈ tblG := tbl1 141 (by decide +kernel) rfl
theorem fd_RX2_18 : zFd RX2 18 2 2 := ⟨RX2, TX2, 5, rfl, iX2, by decide, fl_RX2_18⟩
theorem fl_RX2_21 : Cond.fieldLink RX2 21 (TX2 3).1 (TX2 3).2.1 (TX2 3).2.2.1 ∈ tblG := tbl1 142 (by decide +kernel) rfl
theorem fd_RX2_21 : zFd RX2 21 2 3 := ⟨RX2, TX2, 5, rfl, iX2, by decide, fl_RX2_21⟩
theorem fl_RX2_24 : Cond.fieldLink RX2 24 (TX2 4).1 (TX2 4).2.1 (TX2 4).2.2.1 ∈ tblG := tbl1 143 (by decide +kernel) rfl
theorem fd_RX2_24 : zFd RX2 24 2 4 := ⟨RX2, TX2, 5, rfl, iX2, by decide, fl_RX2_24⟩
theorem fp_RX2_24 : zFp RX2 24 2 4 .int := ⟨RX2, TX2, 5, tyX2, rfl, iX2, by decide, fl_RX2_24, tyX2_ok, nmX2, rfl, by decide +kernel⟩
theorem fl_RX5_216 : Cond.fieldLink RX5 216 (TX2 4).1 (TX2 4).2.1 (TX2 4).2.2.1 ∈ tblG := tbl1 144 (by decide +kernel) rfl
theorem fd_RX5_216 : zFd RX5 216 2 4 := ⟨RX2, TX2, 5, rfl, iX2, by decide, fl_RX5_216⟩
theorem fp_RX5_216 : zFp RX5 216 2 4 .int := ⟨RX2, TX2, 5, tyX2, rfl, iX2, by decide, fl_RX5_216, tyX2_ok, nmX2, rfl, by decide +kernel⟩
theorem fl_RX5_10 : Cond.fieldLink RX5 10 (TX5 0).1 (TX5 0).2.1 (TX5 0).2.2.1 ∈ tblG := tbl1 156 (by decide +kernel) rfl
theorem fd_RX5_10 : zFd RX5 10 5 0 := ⟨RX5, TX5, 9, rfl, iX5, by decide, fl_RX5_10⟩
theorem fl_RX5_16 : Cond.fieldLink RX5 16 (TX5 1).1 (TX5 1).2.1 (TX5 1).2.2.1 ∈ tblG := tbl1 157 (by decide +kernel) rfl
theorem fd_RX5_16 : zFd RX5 16 5 1 := ⟨RX5, TX5, 9, rfl, iX5, by decide, fl_RX5_16⟩
theorem fl_RX5_19 : Cond.fieldLink RX5 19 (TX5 2).1 (TX5 2).2.1 (TX5 2).2.2.1 ∈ tblG := tbl1 158 (by decide +kernel) rfl
theorem fd_RX5_19 : zFd RX5 19 5 2 := ⟨RX5, TX5, 9, rfl, iX5, by decide, fl_RX5_19⟩
theorem fl_RX5_25 : Cond.fieldLink RX5 25 (TX5 3).1 (TX5 3).2.1 (TX5 3).2.2.1 ∈ tblG := tbl1 159 (by decide +kernel) rfl
theorem fd_RX5_25 : zFd RX5 25 5 3 := ⟨RX5, TX5, 9, rfl, iX5, by decide, fl_RX5_25⟩
theorem fl_RX5_32 : Cond.fieldLink RX5 32 (TX5 4).1 (TX5 4).2.1 (TX5 4).2.2.1 ∈ tblG := tbl1 160 (by decide +kernel) rfl
theorem fd_RX5_32 : zFd RX5 32 5 4 := ⟨RX5, TX5, 9, rfl, iX5, by decide, fl_RX5_32⟩
theorem fl_RX5_39 : Cond.fieldLink RX5 39 (TX5 5).1 (TX5 5).2.1 (TX5 5).2.2.1 ∈ tblG := tbl1 161 (by decide +kernel) rfl
theorem fd_RX5_39 : zFd RX5 39 5 5 := ⟨RX5, TX5, 9, rfl, iX5, by decide, fl_RX5_39⟩
theorem fl_RX5_43 : Cond.fieldLink RX5 43 (TX5 6).1 (TX5 6).2.1 (TX5 6).2.2.1 ∈ tblG := tbl1 162 (by decide +kernel) rfl
theorem fd_RX5_43 : zFd RX5 43 5 6 := ⟨RX5, TX5, 9, rfl, iX5, by decide, fl_RX5_43⟩
theorem fl_RX5_47 : Cond.fieldLink RX5 47 (TX5 7).1 (TX5 7).2.1 (TX5 7).2.2.1 ∈ tblG := tbl1 163 (by decide +kernel) rfl
theorem fd_RX5_47 : zFd RX5 47 5 7 := ⟨RX5, TX5, 9, rfl, iX5, by decide, fl_RX5_47⟩
theorem fl_RX5_50 : Cond.fieldLink RX5 50 (TX5 8).1 (TX5 8).2.1 (TX5 8).2.2.1 ∈ tblG := tbl1 164 (by decide +kernel) rfl
theorem fd_RX5_50 : zFd RX5 50 5 8 := ⟨RX5, TX5, 9, rfl, iX5, by decide, fl_RX5_50⟩
theorem fp_RX5_50 : zFp RX5 50 5 8 .boolean := ⟨RX5, TX5, 9, tyX5, rfl, iX5, by decide, fl_RX5_50, tyX5_ok, nmX5, rfl, by decide +kernel⟩
theorem fl_RX6_7 : Cond.fieldLink RX6 7 (TX6 0).1 (TX6 0).2.1 (TX6 0).2.2.1 ∈ tblG := tbl1 644 (by decide +kernel) rfl
theorem fd_RX6_7 : zFd RX6 7 6 0 := ⟨RX6, TX6, 16, rfl, iX6, by decide, fl_RX6_7⟩
theorem fl_RX6_199 : Cond.fieldLink RX6 199 (TX6 1).1 (TX6 1).2.1 (TX6 1).2.2.1 ∈ tblG := tbl1 645 (by decide +kernel) rfl
theorem fd_RX6_199 : zFd RX6 199 6 1 := ⟨RX6, TX6, 16, rfl, iX6, by decide, fl_RX6_199⟩
theorem fp_RX6_199 : zFp RX6 199 6 1 .boolean := ⟨RX6, TX6, 16, tyX6, rfl, iX6, by decide, fl_RX6_199, tyX6_ok, nmX6, rfl, by decide +kernel⟩
theorem fl_RX6_13 : Cond.fieldLink RX6 13 (TX6 2).1 (TX6 2).2.1 (TX6 2).2.2.1 ∈ tblG := tbl1 646 (by decide +kernel) rfl
theorem fd_RX6_13 : zFd RX6 13 6 2 := ⟨RX6, TX6, 16, rfl, iX6, by decide, fl_RX6_13⟩
theorem fl_RX6_110 : Cond.fieldLink RX6 110 (TX6 3).1 (TX6 3).2.1 (TX6 3).2.2.1 ∈ tblG := tbl1 647 (by decide +kernel) rfl
theorem fd_RX6_110 : zFd RX6 110 6 3 := ⟨RX6, TX6, 16, rfl, iX6, by decide, fl_RX6_110⟩
theorem fp_RX6_110 : zFp RX6 110 6 3 .int := ⟨RX6, TX6, 16, tyX6, rfl, iX6, by decide, fl_RX6_110, tyX6_ok, nmX6, rfl, by decide +kernel⟩
theorem fl_RX6_16 : Cond.fieldLink RX6 16 (TX6 4).1 (TX6 4).2.1 (TX6 4).2.2.1 ∈ tblG := tbl1 648 (by decide +kernel) rfl
theorem fd_RX6_16 : zFd RX6 16 6 4 := ⟨RX6, TX6, 16, rfl, iX6, by decide, fl_RX6_16⟩
theorem fl_RX6_20 : Cond.fieldLink RX6 20 (TX6 5).1 (TX6 5).2.1 (TX6 5).2.2.1 ∈ tblG := tbl1 649 (by decide +kernel) rfl
theorem fd_RX6_20 : zFd RX6 20 6 5 := ⟨RX6, TX6, 16, rfl, iX6, by decide, fl_RX6_20⟩
theorem fl_RX6_23 : Cond.fieldLink RX6 23 (TX6 6).1 (TX6 6).2.1 (TX6 6).2.2.1 ∈ tblG := tbl1 650 (by decide +kernel) rfl
theorem fd_RX6_23 : zFd RX6 23 6 6 := ⟨RX6, TX6, 16, rfl, iX6, by decide, fl_RX6_23⟩
theorem fl_RX6_26 : Cond.fieldLink RX6 26 (TX6 7).1 (TX6 7).2.1 (TX6 7).2.2.1 ∈ tblG := tbl1 651 (by decide +kernel) rfl
theorem fd_RX6_26 : zFd RX6 26 6 7 := ⟨RX6, TX6, 16, rfl, iX6, by decide, fl_RX6_26⟩
theorem fl_RX6_114 : Cond.fieldLink RX6 114 (TX6 8).1 (TX6 8).2.1 (TX6 8).2.2.1 ∈ tblG := tbl1 652 (by decide +kernel) rfl
theorem fd_RX6_114 : zFd RX6 114 6 8 := ⟨RX6, TX6, 16, rfl, iX6, by decide, fl_RX6_114⟩
theorem fp_RX6_114 : zFp RX6 114 6 8 .int := ⟨RX6, TX6, 16, tyX6, rfl, iX6, by decide, fl_RX6_114, tyX6_ok, nmX6, rfl, by decide +kernel⟩
theorem fl_RX6_29 : Cond.fieldLink RX6 29 (TX6 9).1 (TX6 9).2.1 (TX6 9).2.2.1 ∈ tblG := tbl1 653 (by decide +kernel) rfl
theorem fd_RX6_29 : zFd RX6 29 6 9 := ⟨RX6, TX6, 16, rfl, iX6, by decide, fl_RX6_29⟩
theorem fl_RX6_32 : Cond.fieldLink RX6 32 (TX6 10).1 (TX6 10).2.1 (TX6 10).2.2.1 ∈ tblG := tbl1 654 (by decide +kernel) rfl
theorem fd_RX6_32 : zFd RX6 32 6 10 := ⟨RX6, TX6, 16, rfl, iX6, by decide, fl_RX6_32⟩
theorem fl_RX6_35 : Cond.fieldLink RX6 35 (TX6 11).1 (TX6 11).2.1 (TX6 11).2.2.1 ∈ tblG := tbl1 655 (by decide +kernel) rfl
theorem fd_RX6_35 : zFd RX6 35 6 11 := ⟨RX6, TX6, 16, rfl, iX6, by decide, fl_RX6_35⟩
theorem fl_RX6_38 : Cond.fieldLink RX6 38 (TX6 12).1 (TX6 12).2.1 (TX6 12).2.2.1 ∈ tblG := tbl1 656 (by decide +kernel) rfl
theorem fd_RX6_38 : zFd RX6 38 6 12 := ⟨RX6, TX6, 16, rfl, iX6, by decide, fl_RX6_38⟩
theorem fl_RX6_41 : Cond.fieldLink RX6 41 (TX6 13).1 (TX6 13).2.1 (TX6 13).2.2.1 ∈ tblG := tbl1 657 (by decide +kernel) rfl
theorem fd_RX6_41 : zFd RX6 41 6 13 := ⟨RX6, TX6, 16, rfl, iX6, by decide, fl_RX6_41⟩
theorem fl_RX6_44 : Cond.fieldLink RX6 44 (TX6 14).1 (TX6 14).2.1 (TX6 14).2.2.1 ∈ tblG := tbl1 658 (by decide +kernel) rfl
theorem fd_RX6_44 : zFd RX6 44 6 14 := ⟨RX6, TX6, 16, rfl, iX6, by decide, fl_RX6_44⟩
theorem fl_RX6_47 : Cond.fieldLink RX6 47 (TX6 15).1 (TX6 15).2.1 (TX6 15).2.2.1 ∈ tblG := tbl1 659 (by decide +kernel) rfl
theorem fd_RX6_47 : zFd RX6 47 6 15 := ⟨RX6, TX6, 16, rfl, iX6, by decide, fl_RX6_47⟩
theorem in_RL : Cond.initialized RL ∈ tblG := tbl1 0 (by decide +kernel) rfl
theorem in_RX5 : Cond.initialized RX5 ∈ tblG := tbl1 1 (by decide +kernel) rfl
theorem in_RX1 : Cond.initialized RX1 ∈ tblG := tbl1 2 (by decide +kernel) rfl
theorem in_RX0 : Cond.initialized RX0 ∈ tblG := tbl1 3 (by decide +kernel) rfl
theorem in_RX4 : Cond.initialized RX4 ∈ tblG := tbl1 4 (by decide +kernel) rfl
theorem in_RX3 : Cond.initialized RX3 ∈ tblG := tbl1 5 (by decide +kernel) rfl
theorem in_RX2 : Cond.initialized RX2 ∈ tblG := tbl1 6 (by decide +kernel) rfl
theorem in_RX6 : Cond.initialized RX6 ∈ tblG := tbl1 7 (by decide +kernel) rfl
theorem in_RJ6 : Cond.initialized RJ6 ∈ tblG := tbl1 8 (by decide +kernel) rfl
theorem in_RJ10 : Cond.initialized RJ10 ∈ tblG := tbl1 9 (by decide +kernel) rfl
theorem in_RJ9 : Cond.initialized RJ9 ∈ tblG := tbl1 10 (by decide +kernel) rfl
theorem cn_RJ6_265 : Cond.constant RJ6 265 (1431655765) ∈ tblG := tbl1 300 (by decide +kernel) rfl
theorem cn_RJ6_266 : Cond.constant RJ6 266 (858993459) ∈ tblG := tbl1 301 (by decide +kernel) rfl
theorem cn_RJ6_267 : Cond.constant RJ6 267 (252645135) ∈ tblG := tbl1 302 (by decide +kernel) rfl
theorem cn_RX1_104 : Cond.constant RX1 104 (65536) ∈ tblG := tbl1 441 (by decide +kernel) rfl
theorem cn_RX5_190 : Cond.constant RX5 190 (2000000000) ∈ tblG := tbl1 459 (by decide +kernel) rfl
theorem cn_RX6_167 : Cond.constant RX6 167 (65536) ∈ tblG := tbl1 868 (by decide +kernel) rfl
theorem cn_RX6_182 : Cond.constant RX6 182 (1000000) ∈ tblG := tbl1 918 (by decide +kernel) rfl
theorem cn_RX1_98 : Cond.constantLong RX1 98 (1103515245) ∈ tblG := tbl1 438 (by decide +kernel) rfl
theorem cn_RX1_100 : Cond.constantLong RX1 100 (12345) ∈ tblG := tbl1 439 (by decide +kernel) rfl
theorem cn_RX1_102 : Cond.constantLong RX1 102 (2147483647) ∈ tblG := tbl1 440 (by decide +kernel) rfl
theorem cn_RX6_50 : Cond.constantLong RX6 50 (7) ∈ tblG := tbl1 700 (by decide +kernel) rfl
theorem cn_RX6_85 : Cond.constantLong RX6 85 (4) ∈ tblG := tbl1 715 (by decide +kernel) rfl
theorem cn_RX6_106 : Cond.constantLong RX6 106 (32) ∈ tblG := tbl1 784 (by decide +kernel) rfl
theorem cn_RX6_108 : Cond.constantLong RX6 108 (126) ∈ tblG := tbl1 785 (by decide +kernel) rfl
theorem cn_RX6_146 : Cond.constantLong RX6 146 (40) ∈ tblG := tbl1 833 (by decide +kernel) rfl
theorem cn_RX6_161 : Cond.constantLong RX6 161 (1103515245) ∈ tblG := tbl1 865 (by decide +kernel) rfl
theorem cn_RX6_163 : Cond.constantLong RX6 163 (12345) ∈ tblG := tbl1 866 (by decide +kernel) rfl
theorem cn_RX6_165 : Cond.constantLong RX6 165 (2147483648) ∈ tblG := tbl1 867 (by decide +kernel) rfl
theorem cn_RX6_174 : Cond.constantLong RX6 174 (2000000000) ∈ tblG := tbl1 884 (by decide +kernel) rfl
theorem cn_RX6_186 : Cond.constantLong RX6 186 (255) ∈ tblG := tbl1 913 (by decide +kernel) rfl
theorem cn_RX6_197 : Cond.constantLong RX6 197 (8) ∈ tblG := tbl1 942 (by decide +kernel) rfl
theorem cn_RX6_203 : Cond.constantLong RX6 203 (3) ∈ tblG := tbl1 961 (by decide +kernel) rfl
theorem cn_RX6_211 : Cond.constantLong RX6 211 (2) ∈ tblG := tbl1 962 (by decide +kernel) rfl
theorem cn_RX6_217 : Cond.constantLong RX6 217 (24) ∈ tblG := tbl1 975 (by decide +kernel) rfl
theorem cn_RL_153 : Cond.constantLong RL 153 (4294967295) ∈ tblG := tbl1 995 (by decide +kernel) rfl
theorem ac_nat : Cond.native arraycopyName ∈ tblG := tbl1 372 (by decide +kernel) rfl
theorem ac_sta : Cond.static arraycopyName ∈ tblG := tbl1 371 (by decide +kernel) rfl
theorem ml_RL_9 : Cond.methodLink RL 9 yX5_init ∈ tblG := tbl1 13 (by decide +kernel) rfl
theorem ml_RL_13 : Cond.methodLink RL 13 yX5_angel ∈ tblG := tbl1 184 (by decide +kernel) rfl
theorem ml_RX5_54 : Cond.methodLink RX5 54 yX5_isPlace ∈ tblG := tbl1 188 (by decide +kernel) rfl
theorem ml_RX5_83 : Cond.methodLink RX5 83 yX5_within ∈ tblG := tbl1 191 (by decide +kernel) rfl
theorem ml_RX5_62 : Cond.methodLink RX5 62 yX1_standing ∈ tblG := tbl1 194 (by decide +kernel) rfl
theorem ml_RX5_66 : Cond.methodLink RX5 66 yX5_holds ∈ tblG := tbl1 201 (by decide +kernel) rfl
theorem ml_RX5_291 : Cond.methodLink RX5 291 yX5_leftBy8 ∈ tblG := tbl1 204 (by decide +kernel) rfl
theorem ml_RX5_74 : Cond.methodLink RX5 74 yX0_forget ∈ tblG := tbl1 207 (by decide +kernel) rfl
theorem ml_RX5_79 : Cond.methodLink RX5 79 yX1_addAngel ∈ tblG := tbl1 211 (by decide +kernel) rfl
theorem ml_RL_18 : Cond.methodLink RL 18 yX5_figure ∈ tblG := tbl1 215 (by decide +kernel) rfl
theorem ml_RX5_90 : Cond.methodLink RX5 90 yX1_addFigure ∈ tblG := tbl1 219 (by decide +kernel) rfl
theorem ml_RX1_63 : Cond.methodLink RX1 63 yX1_tell ∈ tblG := tbl1 223 (by decide +kernel) rfl
theorem ml_RL_23 : Cond.methodLink RL 23 yX5_tune ∈ tblG := tbl1 230 (by decide +kernel) rfl
theorem ml_RX5_94 : Cond.methodLink RX5 94 yX1_hasFigure ∈ tblG := tbl1 234 (by decide +kernel) rfl
theorem ml_RX5_100 : Cond.methodLink RX5 100 yX1_addToTune ∈ tblG := tbl1 238 (by decide +kernel) rfl
theorem ml_RL_27 : Cond.methodLink RL 27 yX5_hush ∈ tblG := tbl1 242 (by decide +kernel) rfl
theorem ml_RL_32 : Cond.methodLink RL 32 yX5_of ∈ tblG := tbl1 246 (by decide +kernel) rfl
theorem ml_RX5_109 : Cond.methodLink RX5 109 yX1_orderOf ∈ tblG := tbl1 250 (by decide +kernel) rfl
theorem ml_RX1_83 : Cond.methodLink RX1 83 yX1_turnsTillBack ∈ tblG := tbl1 254 (by decide +kernel) rfl
theorem ml_RX1_79 : Cond.methodLink RX1 79 yX1_ledBy ∈ tblG := tbl1 258 (by decide +kernel) rfl
theorem ml_RX5_112 : Cond.methodLink RX5 112 yX1_keptBy ∈ tblG := tbl1 265 (by decide +kernel) rfl
theorem ml_RX5_115 : Cond.methodLink RX5 115 yX1_leastLike ∈ tblG := tbl1 269 (by decide +kernel) rfl
theorem ml_RX1_89 : Cond.methodLink RX1 89 yX1_leadAlike ∈ tblG := tbl1 273 (by decide +kernel) rfl
theorem ml_RL_36 : Cond.methodLink RL 36 yX5_leads ∈ tblG := tbl1 277 (by decide +kernel) rfl
theorem ml_RX5_118 : Cond.methodLink RX5 118 yX1_ledBy ∈ tblG := tbl1 281 (by decide +kernel) rfl
theorem ml_RL_40 : Cond.methodLink RL 40 yX5_at ∈ tblG := tbl1 282 (by decide +kernel) rfl
theorem ml_RX5_121 : Cond.methodLink RX5 121 yX1_hasAngel ∈ tblG := tbl1 286 (by decide +kernel) rfl
theorem ml_RL_44 : Cond.methodLink RL 44 yX5_seen ∈ tblG := tbl1 290 (by decide +kernel) rfl
theorem ml_RX5_127 : Cond.methodLink RX5 127 yX5_seenFrom ∈ tblG := tbl1 294 (by decide +kernel) rfl
theorem ml_RX5_179 : Cond.methodLink RX5 179 yJ6_bitCount_0f7a4 ∈ tblG := tbl1 297 (by decide +kernel) rfl
theorem ml_RL_48 : Cond.methodLink RL 48 yX5_type ∈ tblG := tbl1 303 (by decide +kernel) rfl
theorem ml_RX5_130 : Cond.methodLink RX5 130 yX4_isFull ∈ tblG := tbl1 307 (by decide +kernel) rfl
theorem ml_RX5_134 : Cond.methodLink RX5 134 yX4_put ∈ tblG := tbl1 311 (by decide +kernel) rfl
theorem ml_RL_52 : Cond.methodLink RL 52 yX5_ring ∈ tblG := tbl1 315 (by decide +kernel) rfl
theorem ml_RX5_137 : Cond.methodLink RX5 137 yX4_readInto ∈ tblG := tbl1 319 (by decide +kernel) rfl
theorem ml_RX4_22 : Cond.methodLink RX4 22 yX1_clear ∈ tblG := tbl1 323 (by decide +kernel) rfl
theorem ml_RX1_50 : Cond.methodLink RX1 50 yX0_forget ∈ tblG := tbl1 327 (by decide +kernel) rfl
theorem ml_RX4_27 : Cond.methodLink RX4 27 yX4_readPlaces ∈ tblG := tbl1 328 (by decide +kernel) rfl
theorem ml_RX4_38 : Cond.methodLink RX4 38 yX4_takes ∈ tblG := tbl1 332 (by decide +kernel) rfl
theorem ml_RX4_34 : Cond.methodLink RX4 34 yX4_next ∈ tblG := tbl1 336 (by decide +kernel) rfl
theorem ml_RX4_42 : Cond.methodLink RX4 42 yX1_addAngel ∈ tblG := tbl1 340 (by decide +kernel) rfl
theorem ml_RX4_31 : Cond.methodLink RX4 31 yX4_readFigures ∈ tblG := tbl1 341 (by decide +kernel) rfl
theorem ml_RX4_46 : Cond.methodLink RX4 46 yX4_readFigure ∈ tblG := tbl1 345 (by decide +kernel) rfl
theorem ml_RX4_52 : Cond.methodLink RX4 52 yX4_kindOf ∈ tblG := tbl1 349 (by decide +kernel) rfl
theorem ml_RX4_55 : Cond.methodLink RX4 55 yX4_takeDigit ∈ tblG := tbl1 352 (by decide +kernel) rfl
theorem ml_RX4_58 : Cond.methodLink RX4 58 yX1_addFigure ∈ tblG := tbl1 356 (by decide +kernel) rfl
theorem ml_RX4_49 : Cond.methodLink RX4 49 yX4_readTune ∈ tblG := tbl1 357 (by decide +kernel) rfl
theorem ml_RX4_65 : Cond.methodLink RX4 65 yX1_addToTune ∈ tblG := tbl1 361 (by decide +kernel) rfl
theorem ml_RX5_144 : Cond.methodLink RX5 144 yX4_wipe ∈ tblG := tbl1 362 (by decide +kernel) rfl
theorem ml_RX5_150 : Cond.methodLink RX5 150 yX1_becomeLike ∈ tblG := tbl1 366 (by decide +kernel) rfl
theorem ac_RX1_53 : zAc RX1 53 := ⟨tbl1 370 (by decide +kernel) rfl, ac_nat, ac_sta, in_RJ10⟩
theorem ml_RX1_59 : Cond.methodLink RX1 59 yX0_becomeLike ∈ tblG := tbl1 373 (by decide +kernel) rfl
theorem ac_RX0_25 : zAc RX0 25 := ⟨tbl1 377 (by decide +kernel) rfl, ac_nat, ac_sta, in_RJ10⟩
theorem ml_RL_56 : Cond.methodLink RL 56 yX5_count ∈ tblG := tbl1 378 (by decide +kernel) rfl
theorem ml_RX5_157 : Cond.methodLink RX5 157 yX1_goneOnes ∈ tblG := tbl1 382 (by decide +kernel) rfl
theorem ml_RX5_160 : Cond.methodLink RX5 160 yX1_figureOfBeat ∈ tblG := tbl1 386 (by decide +kernel) rfl
theorem ml_RL_60 : Cond.methodLink RL 60 yX5_beats ∈ tblG := tbl1 390 (by decide +kernel) rfl
theorem ml_RX5_166 : Cond.methodLink RX5 166 yX5_refusedBeats ∈ tblG := tbl1 394 (by decide +kernel) rfl
theorem ml_RX5_169 : Cond.methodLink RX5 169 yX0_note ∈ tblG := tbl1 398 (by decide +kernel) rfl
theorem ml_RX0_43 : Cond.methodLink RX0 43 yJ9_min_7cf53 ∈ tblG := tbl1 402 (by decide +kernel) rfl
theorem ml_RX5_172 : Cond.methodLink RX5 172 yX1_dance ∈ tblG := tbl1 405 (by decide +kernel) rfl
theorem ml_RX1_92 : Cond.methodLink RX1 92 yX1_goesOn ∈ tblG := tbl1 409 (by decide +kernel) rfl
theorem ml_RL_64 : Cond.methodLink RL 64 yX5_draught ∈ tblG := tbl1 413 (by decide +kernel) rfl
theorem ml_RX5_175 : Cond.methodLink RX5 175 yX1_blow ∈ tblG := tbl1 417 (by decide +kernel) rfl
theorem ml_RL_68 : Cond.methodLink RL 68 yX5_leave ∈ tblG := tbl1 422 (by decide +kernel) rfl
theorem ml_RL_72 : Cond.methodLink RL 72 yX5_come ∈ tblG := tbl1 426 (by decide +kernel) rfl
theorem ml_RL_76 : Cond.methodLink RL 76 yX5_drift ∈ tblG := tbl1 430 (by decide +kernel) rfl
theorem ml_RX5_184 : Cond.methodLink RX5 184 yX1_drawAndBlow ∈ tblG := tbl1 434 (by decide +kernel) rfl
theorem ml_RX1_105 : Cond.methodLink RX1 105 yX1_blow ∈ tblG := tbl1 442 (by decide +kernel) rfl
theorem ml_RL_80 : Cond.methodLink RL 80 yX5_undo ∈ tblG := tbl1 443 (by decide +kernel) rfl
theorem ml_RX5_187 : Cond.methodLink RX5 187 yX0_bringBack ∈ tblG := tbl1 447 (by decide +kernel) rfl
theorem ml_RL_84 : Cond.methodLink RL 84 yX5_seed ∈ tblG := tbl1 451 (by decide +kernel) rfl
theorem ml_RL_88 : Cond.methodLink RL 88 yX5_ahead ∈ tblG := tbl1 455 (by decide +kernel) rfl
theorem ml_RX5_191 : Cond.methodLink RX5 191 yX1_placeBehind ∈ tblG := tbl1 460 (by decide +kernel) rfl
theorem ml_RX1_112 : Cond.methodLink RX1 112 yX1_roundsTillBack ∈ tblG := tbl1 464 (by decide +kernel) rfl
theorem ml_RX1_109 : Cond.methodLink RX1 109 yX1_walk ∈ tblG := tbl1 468 (by decide +kernel) rfl
theorem ml_RL_92 : Cond.methodLink RL 92 yX5_then ∈ tblG := tbl1 472 (by decide +kernel) rfl
theorem ml_RX5_194 : Cond.methodLink RX5 194 yX5_bitOf ∈ tblG := tbl1 476 (by decide +kernel) rfl
theorem ml_RL_97 : Cond.methodLink RL 97 yX5_back ∈ tblG := tbl1 477 (by decide +kernel) rfl
theorem ml_RX5_197 : Cond.methodLink RX5 197 yX5_roundsTillAllBack ∈ tblG := tbl1 481 (by decide +kernel) rfl
theorem ml_RX5_200 : Cond.methodLink RX5 200 yX1_roundsTillBack ∈ tblG := tbl1 485 (by decide +kernel) rfl
theorem ml_RX5_229 : Cond.methodLink RX5 229 yX5_greatestCommon ∈ tblG := tbl1 486 (by decide +kernel) rfl
theorem ml_RL_101 : Cond.methodLink RL 101 yX5_been ∈ tblG := tbl1 487 (by decide +kernel) rfl
theorem ml_RX5_203 : Cond.methodLink RX5 203 yX1_goesOn ∈ tblG := tbl1 491 (by decide +kernel) rfl
theorem ml_RL_105 : Cond.methodLink RL 105 yX5_shortest ∈ tblG := tbl1 492 (by decide +kernel) rfl
theorem ml_RX5_206 : Cond.methodLink RX5 206 yX2_explore ∈ tblG := tbl1 496 (by decide +kernel) rfl
theorem ml_RX2_33 : Cond.methodLink RX2 33 yX1_setLedBy ∈ tblG := tbl1 500 (by decide +kernel) rfl
theorem ml_RX2_37 : Cond.methodLink RX2 37 yX2_comeTo ∈ tblG := tbl1 505 (by decide +kernel) rfl
theorem ml_RX5_210 : Cond.methodLink RX5 210 yX2_howFar ∈ tblG := tbl1 509 (by decide +kernel) rfl
theorem ml_RX5_213 : Cond.methodLink RX5 213 yX2_figureOnWay ∈ tblG := tbl1 513 (by decide +kernel) rfl
theorem ml_RL_109 : Cond.methodLink RL 109 yX5_sorts ∈ tblG := tbl1 517 (by decide +kernel) rfl
theorem ml_RL_113 : Cond.methodLink RL 113 yX5_apart ∈ tblG := tbl1 521 (by decide +kernel) rfl
theorem ml_RX5_219 : Cond.methodLink RX5 219 yX2_widestPair ∈ tblG := tbl1 525 (by decide +kernel) rfl
theorem ml_RX5_222 : Cond.methodLink RX5 222 yX5_span ∈ tblG := tbl1 532 (by decide +kernel) rfl
theorem ml_RL_117 : Cond.methodLink RL 117 yX5_chance ∈ tblG := tbl1 533 (by decide +kernel) rfl
theorem ml_RX5_225 : Cond.methodLink RX5 225 yX5_countWays ∈ tblG := tbl1 537 (by decide +kernel) rfl
theorem ml_RX5_284 : Cond.methodLink RX5 284 yX5_countWaysOn ∈ tblG := tbl1 541 (by decide +kernel) rfl
theorem ml_RL_122 : Cond.methodLink RL 122 yX5_image ∈ tblG := tbl1 545 (by decide +kernel) rfl
theorem ml_RL_126 : Cond.methodLink RL 126 yX5_restore ∈ tblG := tbl1 549 (by decide +kernel) rfl
theorem ml_RL_130 : Cond.methodLink RL 130 yX5_counts ∈ tblG := tbl1 553 (by decide +kernel) rfl
theorem ml_RX5_232 : Cond.methodLink RX5 232 yX5_isSheet ∈ tblG := tbl1 557 (by decide +kernel) rfl
theorem ml_RX5_235 : Cond.methodLink RX5 235 yX5_isLane ∈ tblG := tbl1 560 (by decide +kernel) rfl
theorem ml_RX5_238 : Cond.methodLink RX5 238 yX3_refused ∈ tblG := tbl1 563 (by decide +kernel) rfl
theorem ml_RX3_22 : Cond.methodLink RX3 22 yX3_isThere ∈ tblG := tbl1 567 (by decide +kernel) rfl
theorem ml_RX3_26 : Cond.methodLink RX3 26 yX3_hasItems ∈ tblG := tbl1 571 (by decide +kernel) rfl
theorem ml_RX5_242 : Cond.methodLink RX5 242 yX5_isSeenAsTold ∈ tblG := tbl1 575 (by decide +kernel) rfl
theorem ml_RX5_287 : Cond.methodLink RX5 287 yX3_itemOf ∈ tblG := tbl1 579 (by decide +kernel) rfl
theorem ml_RX5_246 : Cond.methodLink RX5 246 yJ9_min_7cf53 ∈ tblG := tbl1 583 (by decide +kernel) rfl
theorem ml_RX5_251 : Cond.methodLink RX5 251 yJ9_max_7cf53 ∈ tblG := tbl1 584 (by decide +kernel) rfl
theorem ml_RL_135 : Cond.methodLink RL 135 yX5_steps ∈ tblG := tbl1 587 (by decide +kernel) rfl
theorem ml_RX5_254 : Cond.methodLink RX5 254 yX1_tell ∈ tblG := tbl1 591 (by decide +kernel) rfl
theorem ml_RX5_258 : Cond.methodLink RX5 258 yX5_goesAsTold ∈ tblG := tbl1 592 (by decide +kernel) rfl
theorem ml_RL_140 : Cond.methodLink RL 140 yX5_film ∈ tblG := tbl1 596 (by decide +kernel) rfl
theorem ml_RX5_262 : Cond.methodLink RX5 262 yX3_put ∈ tblG := tbl1 600 (by decide +kernel) rfl
theorem ml_RX3_30 : Cond.methodLink RX3 30 yX3_lowestBits ∈ tblG := tbl1 604 (by decide +kernel) rfl
theorem ml_RL_145 : Cond.methodLink RL 145 yX5_sheet ∈ tblG := tbl1 607 (by decide +kernel) rfl
theorem ml_RX5_265 : Cond.methodLink RX5 265 yX3_renew ∈ tblG := tbl1 611 (by decide +kernel) rfl
theorem ml_RL_149 : Cond.methodLink RL 149 yX5_drop ∈ tblG := tbl1 615 (by decide +kernel) rfl
theorem ml_RX5_268 : Cond.methodLink RX5 268 yX3_isThere ∈ tblG := tbl1 619 (by decide +kernel) rfl
theorem ml_RX5_271 : Cond.methodLink RX5 271 yX3_takeAway ∈ tblG := tbl1 620 (by decide +kernel) rfl
theorem ml_RL_155 : Cond.methodLink RL 155 yX5_item ∈ tblG := tbl1 624 (by decide +kernel) rfl
theorem ml_RL_160 : Cond.methodLink RL 160 yX5_copy ∈ tblG := tbl1 628 (by decide +kernel) rfl
theorem ml_RX5_277 : Cond.methodLink RX5 277 yX3_hasItems ∈ tblG := tbl1 632 (by decide +kernel) rfl
theorem ml_RX5_280 : Cond.methodLink RX5 280 yX3_carry ∈ tblG := tbl1 633 (by decide +kernel) rfl
theorem ac_RX3_34 : zAc RX3 34 := ⟨tbl1 637 (by decide +kernel) rfl, ac_nat, ac_sta, in_RJ10⟩
theorem ml_RL_12 : Cond.methodLink RL 12 yX6_init ∈ tblG := tbl1 640 (by decide +kernel) rfl
theorem ml_RL_17 : Cond.methodLink RL 17 yX6_angel ∈ tblG := tbl1 693 (by decide +kernel) rfl
theorem ml_RX6_74 : Cond.methodLink RX6 74 yX6_isPlace ∈ tblG := tbl1 697 (by decide +kernel) rfl
theorem ml_RX6_52 : Cond.methodLink RX6 52 yX6_in ∈ tblG := tbl1 701 (by decide +kernel) rfl
theorem ml_RX6_78 : Cond.methodLink RX6 78 yX6_taken ∈ tblG := tbl1 704 (by decide +kernel) rfl
theorem ml_RX6_82 : Cond.methodLink RX6 82 yX6_has ∈ tblG := tbl1 708 (by decide +kernel) rfl
theorem ml_RL_22 : Cond.methodLink RL 22 yX6_figure ∈ tblG := tbl1 711 (by decide +kernel) rfl
theorem ml_RL_26 : Cond.methodLink RL 26 yX6_tune ∈ tblG := tbl1 716 (by decide +kernel) rfl
theorem ml_RX6_87 : Cond.methodLink RX6 87 yX6_isFigure ∈ tblG := tbl1 720 (by decide +kernel) rfl
theorem ml_RL_31 : Cond.methodLink RL 31 yX6_hush ∈ tblG := tbl1 724 (by decide +kernel) rfl
theorem ml_RL_35 : Cond.methodLink RL 35 yX6_of ∈ tblG := tbl1 728 (by decide +kernel) rfl
theorem ml_RX6_90 : Cond.methodLink RX6 90 yX6_orderOf ∈ tblG := tbl1 732 (by decide +kernel) rfl
theorem ml_RX6_67 : Cond.methodLink RX6 67 yX6_leadsOf ∈ tblG := tbl1 736 (by decide +kernel) rfl
theorem ml_RX6_63 : Cond.methodLink RX6 63 yX6_leadsBy ∈ tblG := tbl1 740 (by decide +kernel) rfl
theorem ml_RX6_56 : Cond.methodLink RX6 56 yX6_round ∈ tblG := tbl1 743 (by decide +kernel) rfl
theorem ml_RX6_60 : Cond.methodLink RX6 60 yX6_mirror ∈ tblG := tbl1 746 (by decide +kernel) rfl
theorem ml_RX6_94 : Cond.methodLink RX6 94 yX6_keptBy ∈ tblG := tbl1 749 (by decide +kernel) rfl
theorem ml_RX6_97 : Cond.methodLink RX6 97 yX6_sameAs ∈ tblG := tbl1 753 (by decide +kernel) rfl
theorem ml_RX6_70 : Cond.methodLink RX6 70 yX6_areAlike ∈ tblG := tbl1 757 (by decide +kernel) rfl
theorem ml_RL_39 : Cond.methodLink RL 39 yX6_leads ∈ tblG := tbl1 761 (by decide +kernel) rfl
theorem ml_RL_43 : Cond.methodLink RL 43 yX6_at ∈ tblG := tbl1 765 (by decide +kernel) rfl
theorem ml_RX6_100 : Cond.methodLink RX6 100 yX6_isAngel ∈ tblG := tbl1 769 (by decide +kernel) rfl
theorem ml_RL_47 : Cond.methodLink RL 47 yX6_seen ∈ tblG := tbl1 773 (by decide +kernel) rfl
theorem ml_RX6_103 : Cond.methodLink RX6 103 yX6_seenOf ∈ tblG := tbl1 777 (by decide +kernel) rfl
theorem ml_RL_51 : Cond.methodLink RL 51 yX6_type ∈ tblG := tbl1 780 (by decide +kernel) rfl
theorem ml_RL_55 : Cond.methodLink RL 55 yX6_ring ∈ tblG := tbl1 786 (by decide +kernel) rfl
theorem ml_RX6_136 : Cond.methodLink RX6 136 yX6_takesRing ∈ tblG := tbl1 790 (by decide +kernel) rfl
theorem ml_RX6_123 : Cond.methodLink RX6 123 yX6_takesPlaces ∈ tblG := tbl1 794 (by decide +kernel) rfl
theorem ml_RX6_117 : Cond.methodLink RX6 117 yX6_peek ∈ tblG := tbl1 798 (by decide +kernel) rfl
theorem ml_RX6_127 : Cond.methodLink RX6 127 yX6_takes ∈ tblG := tbl1 802 (by decide +kernel) rfl
theorem ml_RX6_130 : Cond.methodLink RX6 130 yX6_takesFigure ∈ tblG := tbl1 806 (by decide +kernel) rfl
theorem ml_RX6_120 : Cond.methodLink RX6 120 yX6_kindOf ∈ tblG := tbl1 810 (by decide +kernel) rfl
theorem ml_RX6_133 : Cond.methodLink RX6 133 yX6_takesTune ∈ tblG := tbl1 813 (by decide +kernel) rfl
theorem ml_RX6_139 : Cond.methodLink RX6 139 yX6_bring ∈ tblG := tbl1 817 (by decide +kernel) rfl
theorem ml_RL_59 : Cond.methodLink RL 59 yX6_count ∈ tblG := tbl1 821 (by decide +kernel) rfl
theorem ml_RX6_143 : Cond.methodLink RX6 143 yX6_goneOnes ∈ tblG := tbl1 825 (by decide +kernel) rfl
theorem ml_RL_63 : Cond.methodLink RL 63 yX6_beats ∈ tblG := tbl1 829 (by decide +kernel) rfl
theorem ml_RX6_148 : Cond.methodLink RX6 148 yX6_minds ∈ tblG := tbl1 834 (by decide +kernel) rfl
theorem ml_RX6_151 : Cond.methodLink RX6 151 yX6_passes ∈ tblG := tbl1 838 (by decide +kernel) rfl
theorem ml_RL_67 : Cond.methodLink RL 67 yX6_draught ∈ tblG := tbl1 842 (by decide +kernel) rfl
theorem ml_RX6_154 : Cond.methodLink RX6 154 yX6_blows ∈ tblG := tbl1 846 (by decide +kernel) rfl
theorem ml_RL_71 : Cond.methodLink RL 71 yX6_leave ∈ tblG := tbl1 850 (by decide +kernel) rfl
theorem ml_RL_75 : Cond.methodLink RL 75 yX6_come ∈ tblG := tbl1 854 (by decide +kernel) rfl
theorem ml_RX6_158 : Cond.methodLink RX6 158 yX6_ones ∈ tblG := tbl1 858 (by decide +kernel) rfl
theorem ml_RL_79 : Cond.methodLink RL 79 yX6_drift ∈ tblG := tbl1 861 (by decide +kernel) rfl
theorem ml_RL_83 : Cond.methodLink RL 83 yX6_undo ∈ tblG := tbl1 869 (by decide +kernel) rfl
theorem ml_RL_87 : Cond.methodLink RL 87 yX6_seed ∈ tblG := tbl1 873 (by decide +kernel) rfl
theorem ml_RL_91 : Cond.methodLink RL 91 yX6_ahead ∈ tblG := tbl1 877 (by decide +kernel) rfl
theorem ml_RX6_176 : Cond.methodLink RX6 176 yX6_isTime ∈ tblG := tbl1 881 (by decide +kernel) rfl
theorem ml_RX6_179 : Cond.methodLink RX6 179 yX6_behind ∈ tblG := tbl1 885 (by decide +kernel) rfl
theorem ml_RX6_171 : Cond.methodLink RX6 171 yX6_ringOf ∈ tblG := tbl1 889 (by decide +kernel) rfl
theorem ml_RX6_168 : Cond.methodLink RX6 168 yX6_goesBy ∈ tblG := tbl1 893 (by decide +kernel) rfl
theorem ml_RL_96 : Cond.methodLink RL 96 yX6_then ∈ tblG := tbl1 897 (by decide +kernel) rfl
theorem ml_RL_100 : Cond.methodLink RL 100 yX6_back ∈ tblG := tbl1 901 (by decide +kernel) rfl
theorem ml_RL_104 : Cond.methodLink RL 104 yX6_been ∈ tblG := tbl1 905 (by decide +kernel) rfl
theorem ml_RL_108 : Cond.methodLink RL 108 yX6_shortest ∈ tblG := tbl1 909 (by decide +kernel) rfl
theorem ml_RX6_188 : Cond.methodLink RX6 188 yX6_laysLeft ∈ tblG := tbl1 914 (by decide +kernel) rfl
theorem ml_RX6_183 : Cond.methodLink RX6 183 yX6_ledBy ∈ tblG := tbl1 919 (by decide +kernel) rfl
theorem ml_RL_112 : Cond.methodLink RL 112 yX6_sorts ∈ tblG := tbl1 923 (by decide +kernel) rfl
theorem ml_RX6_191 : Cond.methodLink RX6 191 yX6_laysFar ∈ tblG := tbl1 927 (by decide +kernel) rfl
theorem ml_RL_116 : Cond.methodLink RL 116 yX6_apart ∈ tblG := tbl1 931 (by decide +kernel) rfl
theorem ml_RX6_194 : Cond.methodLink RX6 194 yX6_apartBy ∈ tblG := tbl1 935 (by decide +kernel) rfl
theorem ml_RL_121 : Cond.methodLink RL 121 yX6_chance ∈ tblG := tbl1 938 (by decide +kernel) rfl
theorem ml_RL_125 : Cond.methodLink RL 125 yX6_image ∈ tblG := tbl1 943 (by decide +kernel) rfl
theorem ml_RL_129 : Cond.methodLink RL 129 yX6_restore ∈ tblG := tbl1 947 (by decide +kernel) rfl
theorem ml_RL_134 : Cond.methodLink RL 134 yX6_counts ∈ tblG := tbl1 951 (by decide +kernel) rfl
theorem ml_RX6_208 : Cond.methodLink RX6 208 yX6_isLane ∈ tblG := tbl1 955 (by decide +kernel) rfl
theorem ml_RX6_205 : Cond.methodLink RX6 205 yX6_isSheet ∈ tblG := tbl1 958 (by decide +kernel) rfl
theorem ml_RX6_213 : Cond.methodLink RX6 213 yX6_against ∈ tblG := tbl1 963 (by decide +kernel) rfl
theorem ml_RL_139 : Cond.methodLink RL 139 yX6_steps ∈ tblG := tbl1 967 (by decide +kernel) rfl
theorem ml_RL_144 : Cond.methodLink RL 144 yX6_film ∈ tblG := tbl1 971 (by decide +kernel) rfl
theorem ml_RL_148 : Cond.methodLink RL 148 yX6_sheet ∈ tblG := tbl1 976 (by decide +kernel) rfl
theorem ml_RL_152 : Cond.methodLink RL 152 yX6_drop ∈ tblG := tbl1 980 (by decide +kernel) rfl
theorem ml_RL_159 : Cond.methodLink RL 159 yX6_item ∈ tblG := tbl1 984 (by decide +kernel) rfl
theorem ml_RX6_219 : Cond.methodLink RX6 219 yX6_lowest ∈ tblG := tbl1 988 (by decide +kernel) rfl
theorem ml_RL_163 : Cond.methodLink RL 163 yX6_copy ∈ tblG := tbl1 991 (by decide +kernel) rfl
theorem yv_X5_angel : zYv yX5_angel cX5_angel 2 (some .int) 1 5 := ⟨(tbl1 187 (by decide +kernel) rfl), tbl1 185 (by decide +kernel) rfl, tbl1 186 (by decide +kernel) rfl, in_RX5, ⟨by decide +kernel, by decide +kernel, by decide +kernel⟩, rfl⟩
theorem ys_X5_isPlace : zYs yX5_isPlace cX5_isPlace 1 (some .boolean) 1 := ⟨(tbl1 190 (by decide +kernel) rfl), tbl1 189 (by decide +kernel) rfl, in_RX5, by decide +kernel, by decide +kernel, by decide +kernel⟩
theorem ys_X5_within : zYs yX5_within cX5_within 3 (some .boolean) 3 := ⟨(tbl1 193 (by decide +kernel) rfl), tbl1 192 (by decide +kernel) rfl, in_RX5, by decide +kernel, by decide +kernel, by decide +kernel⟩
theorem yv_X1_standing : zYv yX1_standing cX1_standing 3 (some .int) 0 1 := ⟨(tbl1 197 (by decide +kernel) rfl), tbl1 195 (by decide +kernel) rfl, tbl1 196 (by decide +kernel) rfl, in_RX1, ⟨by decide +kernel, by decide +kernel, by decide +kernel⟩, rfl⟩
theorem ys_X5_bitOf : zYs yX5_bitOf cX5_bitOf 1 (some .int) 1 := ⟨(tbl1 200 (by decide +kernel) rfl), tbl1 199 (by decide +kernel) rfl, in_RX5, by decide +kernel, by decide +kernel, by decide +kernel⟩
theorem ys_X5_holds : zYs yX5_holds cX5_holds 2 (some .boolean) 2 := ⟨(tbl1 203 (by decide +kernel) rfl), tbl1 202 (by decide +kernel) rfl, in_RX5, by decide +kernel, by decide +kernel, by decide +kernel⟩
theorem ys_X5_leftBy8 : zYs yX5_leftBy8 cX5_leftBy8 1 (some .int) 1 := ⟨(tbl1 206 (by decide +kernel) rfl), tbl1 205 (by decide +kernel) rfl, in_RX5, by decide +kernel, by decide +kernel, by decide +kernel⟩
theorem yv_X0_forget : zYv yX0_forget cX0_forget 1 none 0 0 := ⟨(tbl1 210 (by decide +kernel) rfl), tbl1 208 (by decide +kernel) rfl, tbl1 209 (by decide +kernel) rfl, in_RX0, ⟨by decide +kernel, by decide +kernel, by decide +kernel⟩, rfl⟩
theorem yv_X1_addAngel : zYv yX1_addAngel cX1_addAngel 2 (some .int) 1 1 := ⟨(tbl1 214 (by decide +kernel) rfl), tbl1 212 (by decide +kernel) rfl, tbl1 213 (by decide +kernel) rfl, in_RX1, ⟨by decide +kernel, by decide +kernel, by decide +kernel⟩, rfl⟩
theorem yv_X5_figure : zYv yX5_figure cX5_figure 3 (some .int) 2 5 := ⟨(tbl1 218 (by decide +kernel) rfl), tbl1 216 (by decide +kernel) rfl, tbl1 217 (by decide +kernel) rfl, in_RX5, ⟨by decide +kernel, by decide +kernel, by decide +kernel⟩, rfl⟩
theorem yv_X1_addFigure : zYv yX1_addFigure cX1_addFigure 3 (some .int) 2 1 := ⟨(tbl1 222 (by decide +kernel) rfl), tbl1 220 (by decide +kernel) rfl, tbl1 221 (by decide +kernel) rfl, in_RX1, ⟨by decide +kernel, by decide +kernel, by decide +kernel⟩, rfl⟩
theorem yv_X1_tell : zYv yX1_tell cX1_tell 5 none 3 1 := ⟨(tbl1 226 (by decide +kernel) rfl), tbl1 224 (by decide +kernel) rfl, tbl1 225 (by decide +kernel) rfl, in_RX1, ⟨by decide +kernel, by decide +kernel, by decide +kernel⟩, rfl⟩
theorem ys_X5_lead : zYs yX5_lead cX5_lead 6 (some .int) 3 := ⟨(tbl1 229 (by decide +kernel) rfl), tbl1 228 (by decide +kernel) rfl, in_RX5, by decide +kernel, by decide +kernel, by decide +kernel⟩
theorem yv_X5_tune : zYv yX5_tune cX5_tune 2 (some .int) 1 5 := ⟨(tbl1 233 (by decide +kernel) rfl), tbl1 231 (by decide +kernel) rfl, tbl1 232 (by decide +kernel) rfl, in_RX5, ⟨by decide +kernel, by decide +kernel, by decide +kernel⟩, rfl⟩
theorem yv_X1_hasFigure : zYv yX1_hasFigure cX1_hasFigure 2 (some .boolean) 1 1 := ⟨(tbl1 237 (by decide +kernel) rfl), tbl1 235 (by decide +kernel) rfl, tbl1 236 (by decide +kernel) rfl, in_RX1, ⟨by decide +kernel, by decide +kernel, by decide +kernel⟩, rfl⟩
theorem yv_X1_addToTune : zYv yX1_addToTune cX1_addToTune 2 (some .int) 1 1 := ⟨(tbl1 241 (by decide +kernel) rfl), tbl1 239 (by decide +kernel) rfl, tbl1 240 (by decide +kernel) rfl, in_RX1, ⟨by decide +kernel, by decide +kernel, by decide +kernel⟩, rfl⟩
theorem yv_X5_hush : zYv yX5_hush cX5_hush 2 (some .int) 0 5 := ⟨(tbl1 245 (by decide +kernel) rfl), tbl1 243 (by decide +kernel) rfl, tbl1 244 (by decide +kernel) rfl, in_RX5, ⟨by decide +kernel, by decide +kernel, by decide +kernel⟩, rfl⟩
theorem yv_X5_of : zYv yX5_of cX5_of 3 (some .int) 2 5 := ⟨(tbl1 249 (by decide +kernel) rfl), tbl1 247 (by decide +kernel) rfl, tbl1 248 (by decide +kernel) rfl, in_RX5, ⟨by decide +kernel, by decide +kernel, by decide +kernel⟩, rfl⟩
theorem yv_X1_orderOf : zYv yX1_orderOf cX1_orderOf 6 (some .int) 1 1 := ⟨(tbl1 253 (by decide +kernel) rfl), tbl1 251 (by decide +kernel) rfl, tbl1 252 (by decide +kernel) rfl, in_RX1, ⟨by decide +kernel, by decide +kernel, by decide +kernel⟩, rfl⟩
theorem yv_X1_turnsTillBack : zYv yX1_turnsTillBack cX1_turnsTillBack 5 (some .int) 2 1 := ⟨(tbl1 257 (by decide +kernel) rfl), tbl1 255 (by decide +kernel) rfl, tbl1 256 (by decide +kernel) rfl, in_RX1, ⟨by decide +kernel, by decide +kernel, by decide +kernel⟩, rfl⟩
theorem yv_X1_ledBy : zYv yX1_ledBy cX1_ledBy 3 (some .int) 2 1 := ⟨(tbl1 261 (by decide +kernel) rfl), tbl1 259 (by decide +kernel) rfl, tbl1 260 (by decide +kernel) rfl, in_RX1, ⟨by decide +kernel, by decide +kernel, by decide +kernel⟩, rfl⟩
theorem ys_X5_greatestCommon : zYs yX5_greatestCommon cX5_greatestCommon 6 (some .int) 2 := ⟨(tbl1 264 (by decide +kernel) rfl), tbl1 263 (by decide +kernel) rfl, in_RX5, by decide +kernel, by decide +kernel, by decide +kernel⟩
theorem yv_X1_keptBy : zYv yX1_keptBy cX1_keptBy 4 (some .int) 1 1 := ⟨(tbl1 268 (by decide +kernel) rfl), tbl1 266 (by decide +kernel) rfl, tbl1 267 (by decide +kernel) rfl, in_RX1, ⟨by decide +kernel, by decide +kernel, by decide +kernel⟩, rfl⟩
theorem yv_X1_leastLike : zYv yX1_leastLike cX1_leastLike 3 (some .int) 1 1 := ⟨(tbl1 272 (by decide +kernel) rfl), tbl1 270 (by decide +kernel) rfl, tbl1 271 (by decide +kernel) rfl, in_RX1, ⟨by decide +kernel, by decide +kernel, by decide +kernel⟩, rfl⟩
theorem yv_X1_leadAlike : zYv yX1_leadAlike cX1_leadAlike 4 (some .boolean) 2 1 := ⟨(tbl1 276 (by decide +kernel) rfl), tbl1 274 (by decide +kernel) rfl, tbl1 275 (by decide +kernel) rfl, in_RX1, ⟨by decide +kernel, by decide +kernel, by decide +kernel⟩, rfl⟩
theorem yv_X5_leads : zYv yX5_leads cX5_leads 3 (some .int) 2 5 := ⟨(tbl1 280 (by decide +kernel) rfl), tbl1 278 (by decide +kernel) rfl, tbl1 279 (by decide +kernel) rfl, in_RX5, ⟨by decide +kernel, by decide +kernel, by decide +kernel⟩, rfl⟩
theorem yv_X5_at : zYv yX5_at cX5_at 2 (some .int) 1 5 := ⟨(tbl1 285 (by decide +kernel) rfl), tbl1 283 (by decide +kernel) rfl, tbl1 284 (by decide +kernel) rfl, in_RX5, ⟨by decide +kernel, by decide +kernel, by decide +kernel⟩, rfl⟩
theorem yv_X1_hasAngel : zYv yX1_hasAngel cX1_hasAngel 2 (some .boolean) 1 1 := ⟨(tbl1 289 (by decide +kernel) rfl), tbl1 287 (by decide +kernel) rfl, tbl1 288 (by decide +kernel) rfl, in_RX1, ⟨by decide +kernel, by decide +kernel, by decide +kernel⟩, rfl⟩
theorem yv_X5_seen : zYv yX5_seen cX5_seen 2 (some .int) 1 5 := ⟨(tbl1 293 (by decide +kernel) rfl), tbl1 291 (by decide +kernel) rfl, tbl1 292 (by decide +kernel) rfl, in_RX5, ⟨by decide +kernel, by decide +kernel, by decide +kernel⟩, rfl⟩
theorem ys_X5_seenFrom : zYs yX5_seenFrom cX5_seenFrom 7 (some .int) 2 := ⟨(tbl1 296 (by decide +kernel) rfl), tbl1 295 (by decide +kernel) rfl, in_RX5, by decide +kernel, by decide +kernel, by decide +kernel⟩
theorem ys_J6_bitCount_0f7a4 : zYs yJ6_bitCount_0f7a4 cJ6_bitCount_0f7a4 1 (some .int) 1 := ⟨(tbl1 299 (by decide +kernel) rfl), tbl1 298 (by decide +kernel) rfl, in_RJ6, by decide +kernel, by decide +kernel, by decide +kernel⟩
theorem yv_X5_type : zYv yX5_type cX5_type 2 (some .int) 1 5 := ⟨(tbl1 306 (by decide +kernel) rfl), tbl1 304 (by decide +kernel) rfl, tbl1 305 (by decide +kernel) rfl, in_RX5, ⟨by decide +kernel, by decide +kernel, by decide +kernel⟩, rfl⟩
theorem yv_X4_isFull : zYv yX4_isFull cX4_isFull 1 (some .boolean) 0 4 := ⟨(tbl1 310 (by decide +kernel) rfl), tbl1 308 (by decide +kernel) rfl, tbl1 309 (by decide +kernel) rfl, in_RX4, ⟨by decide +kernel, by decide +kernel, by decide +kernel⟩, rfl⟩
theorem yv_X4_put : zYv yX4_put cX4_put 2 (some .int) 1 4 := ⟨(tbl1 314 (by decide +kernel) rfl), tbl1 312 (by decide +kernel) rfl, tbl1 313 (by decide +kernel) rfl, in_RX4, ⟨by decide +kernel, by decide +kernel, by decide +kernel⟩, rfl⟩
theorem yv_X5_ring : zYv yX5_ring cX5_ring 3 (some .int) 0 5 := ⟨(tbl1 318 (by decide +kernel) rfl), tbl1 316 (by decide +kernel) rfl, tbl1 317 (by decide +kernel) rfl, in_RX5, ⟨by decide +kernel, by decide +kernel, by decide +kernel⟩, rfl⟩
theorem yv_X4_readInto : zYv yX4_readInto cX4_readInto 2 (some .boolean) 1 4 := ⟨(tbl1 322 (by decide +kernel) rfl), tbl1 320 (by decide +kernel) rfl, tbl1 321 (by decide +kernel) rfl, in_RX4, ⟨by decide +kernel, by decide +kernel, by decide +kernel⟩, rfl⟩
theorem yv_X1_clear : zYv yX1_clear cX1_clear 1 none 0 1 := ⟨(tbl1 326 (by decide +kernel) rfl), tbl1 324 (by decide +kernel) rfl, tbl1 325 (by decide +kernel) rfl, in_RX1, ⟨by decide +kernel, by decide +kernel, by decide +kernel⟩, rfl⟩
theorem yv_X4_readPlaces : zYv yX4_readPlaces cX4_readPlaces 3 (some .boolean) 1 4 := ⟨(tbl1 331 (by decide +kernel) rfl), tbl1 330 (by decide +kernel) rfl, tbl_mem (List.mem_append_left _ (by decide +kernel)) rfl, in_RX4, ⟨by decide +kernel, by decide +kernel, by decide +kernel⟩, rfl⟩
theorem yv_X4_takes : zYv yX4_takes cX4_takes 2 (some .boolean) 1 4 := ⟨(tbl1 335 (by decide +kernel) rfl), tbl1 334 (by decide +kernel) rfl, tbl_mem (List.mem_append_left _ (by decide +kernel)) rfl, in_RX4, ⟨by decide +kernel, by decide +kernel, by decide +kernel⟩, rfl⟩
theorem yv_X4_next : zYv yX4_next cX4_next 1 (some .int) 0 4 := ⟨(tbl1 339 (by decide +kernel) rfl), tbl1 338 (by decide +kernel) rfl, tbl_mem (List.mem_append_left _ (by decide +kernel)) rfl, in_RX4, ⟨by decide +kernel, by decide +kernel, by decide +kernel⟩, rfl⟩
theorem yv_X4_readFigures : zYv yX4_readFigures cX4_readFigures 3 (some .boolean) 1 4 := ⟨(tbl1 344 (by decide +kernel) rfl), tbl1 343 (by decide +kernel) rfl, tbl_mem (List.mem_append_left _ (by decide +kernel)) rfl, in_RX4, ⟨by decide +kernel, by decide +kernel, by decide +kernel⟩, rfl⟩
theorem yv_X4_readFigure : zYv yX4_readFigure cX4_readFigure 4 (some .boolean) 1 4 := ⟨(tbl1 348 (by decide +kernel) rfl), tbl1 347 (by decide +kernel) rfl, tbl_mem (List.mem_append_left _ (by decide +kernel)) rfl, in_RX4, ⟨by decide +kernel, by decide +kernel, by decide +kernel⟩, rfl⟩
theorem ys_X4_kindOf : zYs yX4_kindOf cX4_kindOf 1 (some .int) 1 := ⟨(tbl1 351 (by decide +kernel) rfl), tbl1 350 (by decide +kernel) rfl, in_RX4, by decide +kernel, by decide +kernel, by decide +kernel⟩
theorem yv_X4_takeDigit : zYv yX4_takeDigit cX4_takeDigit 3 (some .int) 1 4 := ⟨(tbl1 355 (by decide +kernel) rfl), tbl1 354 (by decide +kernel) rfl, tbl_mem (List.mem_append_left _ (by decide +kernel)) rfl, in_RX4, ⟨by decide +kernel, by decide +kernel, by decide +kernel⟩, rfl⟩
theorem yv_X4_readTune : zYv yX4_readTune cX4_readTune 4 (some .boolean) 1 4 := ⟨(tbl1 360 (by decide +kernel) rfl), tbl1 359 (by decide +kernel) rfl, tbl_mem (List.mem_append_left _ (by decide +kernel)) rfl, in_RX4, ⟨by decide +kernel, by decide +kernel, by decide +kernel⟩, rfl⟩
theorem yv_X4_wipe : zYv yX4_wipe cX4_wipe 1 none 0 4 := ⟨(tbl1 365 (by decide +kernel) rfl), tbl1 363 (by decide +kernel) rfl, tbl1 364 (by decide +kernel) rfl, in_RX4, ⟨by decide +kernel, by decide +kernel, by decide +kernel⟩, rfl⟩
theorem yv_X1_becomeLike : zYv yX1_becomeLike cX1_becomeLike 2 none 1 1 := ⟨(tbl1 369 (by decide +kernel) rfl), tbl1 367 (by decide +kernel) rfl, tbl1 368 (by decide +kernel) rfl, in_RX1, ⟨by decide +kernel, by decide +kernel, by decide +kernel⟩, rfl⟩
theorem yv_X0_becomeLike : zYv yX0_becomeLike cX0_becomeLike 2 none 1 0 := ⟨(tbl1 376 (by decide +kernel) rfl), tbl1 374 (by decide +kernel) rfl, tbl1 375 (by decide +kernel) rfl, in_RX0, ⟨by decide +kernel, by decide +kernel, by decide +kernel⟩, rfl⟩
theorem yv_X5_count : zYv yX5_count cX5_count 2 (some .int) 1 5 := ⟨(tbl1 381 (by decide +kernel) rfl), tbl1 379 (by decide +kernel) rfl, tbl1 380 (by decide +kernel) rfl, in_RX5, ⟨by decide +kernel, by decide +kernel, by decide +kernel⟩, rfl⟩
theorem yv_X1_goneOnes : zYv yX1_goneOnes cX1_goneOnes 3 (some .int) 0 1 := ⟨(tbl1 385 (by decide +kernel) rfl), tbl1 383 (by decide +kernel) rfl, tbl1 384 (by decide +kernel) rfl, in_RX1, ⟨by decide +kernel, by decide +kernel, by decide +kernel⟩, rfl⟩
theorem yv_X1_figureOfBeat : zYv yX1_figureOfBeat cX1_figureOfBeat 2 (some .int) 1 1 := ⟨(tbl1 389 (by decide +kernel) rfl), tbl1 387 (by decide +kernel) rfl, tbl1 388 (by decide +kernel) rfl, in_RX1, ⟨by decide +kernel, by decide +kernel, by decide +kernel⟩, rfl⟩
theorem yv_X5_beats : zYv yX5_beats cX5_beats 4 (some .int) 1 5 := ⟨(tbl1 393 (by decide +kernel) rfl), tbl1 391 (by decide +kernel) rfl, tbl1 392 (by decide +kernel) rfl, in_RX5, ⟨by decide +kernel, by decide +kernel, by decide +kernel⟩, rfl⟩
theorem yv_X5_refusedBeats : zYv yX5_refusedBeats cX5_refusedBeats 2 (some .int) 1 5 := ⟨(tbl1 397 (by decide +kernel) rfl), tbl1 396 (by decide +kernel) rfl, tbl_mem (List.mem_append_left _ (by decide +kernel)) rfl, in_RX5, ⟨by decide +kernel, by decide +kernel, by decide +kernel⟩, rfl⟩
theorem yv_X0_note : zYv yX0_note cX0_note 2 none 1 0 := ⟨(tbl1 401 (by decide +kernel) rfl), tbl1 399 (by decide +kernel) rfl, tbl1 400 (by decide +kernel) rfl, in_RX0, ⟨by decide +kernel, by decide +kernel, by decide +kernel⟩, rfl⟩
theorem ys_J9_min_7cf53 : zYs yJ9_min_7cf53 cJ9_min_7cf53 2 (some .int) 2 := ⟨(tbl1 404 (by decide +kernel) rfl), tbl1 403 (by decide +kernel) rfl, in_RJ9, by decide +kernel, by decide +kernel, by decide +kernel⟩
theorem yv_X1_dance : zYv yX1_dance cX1_dance 2 none 0 1 := ⟨(tbl1 408 (by decide +kernel) rfl), tbl1 406 (by decide +kernel) rfl, tbl1 407 (by decide +kernel) rfl, in_RX1, ⟨by decide +kernel, by decide +kernel, by decide +kernel⟩, rfl⟩
theorem yv_X1_goesOn : zYv yX1_goesOn cX1_goesOn 3 (some .int) 2 1 := ⟨(tbl1 412 (by decide +kernel) rfl), tbl1 410 (by decide +kernel) rfl, tbl1 411 (by decide +kernel) rfl, in_RX1, ⟨by decide +kernel, by decide +kernel, by decide +kernel⟩, rfl⟩
theorem yv_X5_draught : zYv yX5_draught cX5_draught 2 (some .int) 1 5 := ⟨(tbl1 416 (by decide +kernel) rfl), tbl1 414 (by decide +kernel) rfl, tbl1 415 (by decide +kernel) rfl, in_RX5, ⟨by decide +kernel, by decide +kernel, by decide +kernel⟩, rfl⟩
theorem yv_X1_blow : zYv yX1_blow cX1_blow 3 none 1 1 := ⟨(tbl1 420 (by decide +kernel) rfl), tbl1 418 (by decide +kernel) rfl, tbl1 419 (by decide +kernel) rfl, in_RX1, ⟨by decide +kernel, by decide +kernel, by decide +kernel⟩, rfl⟩
theorem yv_X5_leave : zYv yX5_leave cX5_leave 3 (some .int) 1 5 := ⟨(tbl1 425 (by decide +kernel) rfl), tbl1 423 (by decide +kernel) rfl, tbl1 424 (by decide +kernel) rfl, in_RX5, ⟨by decide +kernel, by decide +kernel, by decide +kernel⟩, rfl⟩
theorem yv_X5_come : zYv yX5_come cX5_come 3 (some .int) 2 5 := ⟨(tbl1 429 (by decide +kernel) rfl), tbl1 427 (by decide +kernel) rfl, tbl1 428 (by decide +kernel) rfl, in_RX5, ⟨by decide +kernel, by decide +kernel, by decide +kernel⟩, rfl⟩
theorem yv_X5_drift : zYv yX5_drift cX5_drift 4 (some .int) 1 5 := ⟨(tbl1 433 (by decide +kernel) rfl), tbl1 431 (by decide +kernel) rfl, tbl1 432 (by decide +kernel) rfl, in_RX5, ⟨by decide +kernel, by decide +kernel, by decide +kernel⟩, rfl⟩
theorem yv_X1_drawAndBlow : zYv yX1_drawAndBlow cX1_drawAndBlow 1 none 0 1 := ⟨(tbl1 437 (by decide +kernel) rfl), tbl1 435 (by decide +kernel) rfl, tbl1 436 (by decide +kernel) rfl, in_RX1, ⟨by decide +kernel, by decide +kernel, by decide +kernel⟩, rfl⟩
theorem yv_X5_undo : zYv yX5_undo cX5_undo 1 (some .int) 0 5 := ⟨(tbl1 446 (by decide +kernel) rfl), tbl1 444 (by decide +kernel) rfl, tbl1 445 (by decide +kernel) rfl, in_RX5, ⟨by decide +kernel, by decide +kernel, by decide +kernel⟩, rfl⟩
theorem yv_X0_bringBack : zYv yX0_bringBack cX0_bringBack 2 none 1 0 := ⟨(tbl1 450 (by decide +kernel) rfl), tbl1 448 (by decide +kernel) rfl, tbl1 449 (by decide +kernel) rfl, in_RX0, ⟨by decide +kernel, by decide +kernel, by decide +kernel⟩, rfl⟩
theorem yv_X5_seed : zYv yX5_seed cX5_seed 3 (some .int) 1 5 := ⟨(tbl1 454 (by decide +kernel) rfl), tbl1 452 (by decide +kernel) rfl, tbl1 453 (by decide +kernel) rfl, in_RX5, ⟨by decide +kernel, by decide +kernel, by decide +kernel⟩, rfl⟩
theorem yv_X5_ahead : zYv yX5_ahead cX5_ahead 3 (some .int) 2 5 := ⟨(tbl1 458 (by decide +kernel) rfl), tbl1 456 (by decide +kernel) rfl, tbl1 457 (by decide +kernel) rfl, in_RX5, ⟨by decide +kernel, by decide +kernel, by decide +kernel⟩, rfl⟩
theorem yv_X1_placeBehind : zYv yX1_placeBehind cX1_placeBehind 7 (some .int) 2 1 := ⟨(tbl1 463 (by decide +kernel) rfl), tbl1 461 (by decide +kernel) rfl, tbl1 462 (by decide +kernel) rfl, in_RX1, ⟨by decide +kernel, by decide +kernel, by decide +kernel⟩, rfl⟩
theorem yv_X1_roundsTillBack : zYv yX1_roundsTillBack cX1_roundsTillBack 4 (some .int) 1 1 := ⟨(tbl1 467 (by decide +kernel) rfl), tbl1 465 (by decide +kernel) rfl, tbl1 466 (by decide +kernel) rfl, in_RX1, ⟨by decide +kernel, by decide +kernel, by decide +kernel⟩, rfl⟩
theorem yv_X1_walk : zYv yX1_walk cX1_walk 5 (some .int) 2 1 := ⟨(tbl1 471 (by decide +kernel) rfl), tbl1 469 (by decide +kernel) rfl, tbl1 470 (by decide +kernel) rfl, in_RX1, ⟨by decide +kernel, by decide +kernel, by decide +kernel⟩, rfl⟩
theorem yv_X5_then : zYv yX5_then cX5_then 8 (some .int) 3 5 := ⟨(tbl1 475 (by decide +kernel) rfl), tbl1 473 (by decide +kernel) rfl, tbl1 474 (by decide +kernel) rfl, in_RX5, ⟨by decide +kernel, by decide +kernel, by decide +kernel⟩, rfl⟩
theorem yv_X5_back : zYv yX5_back cX5_back 2 (some .int) 1 5 := ⟨(tbl1 480 (by decide +kernel) rfl), tbl1 478 (by decide +kernel) rfl, tbl1 479 (by decide +kernel) rfl, in_RX5, ⟨by decide +kernel, by decide +kernel, by decide +kernel⟩, rfl⟩
theorem yv_X5_roundsTillAllBack : zYv yX5_roundsTillAllBack cX5_roundsTillAllBack 5 (some .int) 0 5 := ⟨(tbl1 484 (by decide +kernel) rfl), tbl1 483 (by decide +kernel) rfl, tbl_mem (List.mem_append_left _ (by decide +kernel)) rfl, in_RX5, ⟨by decide +kernel, by decide +kernel, by decide +kernel⟩, rfl⟩
theorem yv_X5_been : zYv yX5_been cX5_been 5 (some .int) 1 5 := ⟨(tbl1 490 (by decide +kernel) rfl), tbl1 488 (by decide +kernel) rfl, tbl1 489 (by decide +kernel) rfl, in_RX5, ⟨by decide +kernel, by decide +kernel, by decide +kernel⟩, rfl⟩
theorem yv_X5_shortest : zYv yX5_shortest cX5_shortest 3 (some .int) 2 5 := ⟨(tbl1 495 (by decide +kernel) rfl), tbl1 493 (by decide +kernel) rfl, tbl1 494 (by decide +kernel) rfl, in_RX5, ⟨by decide +kernel, by decide +kernel, by decide +kernel⟩, rfl⟩
theorem yv_X2_explore : zYv yX2_explore cX2_explore 5 none 2 2 := ⟨(tbl1 499 (by decide +kernel) rfl), tbl1 497 (by decide +kernel) rfl, tbl1 498 (by decide +kernel) rfl, in_RX2, ⟨by decide +kernel, by decide +kernel, by decide +kernel⟩, rfl⟩
theorem yv_X1_setLedBy : zYv yX1_setLedBy cX1_setLedBy 5 (some .int) 2 1 := ⟨(tbl1 503 (by decide +kernel) rfl), tbl1 501 (by decide +kernel) rfl, tbl1 502 (by decide +kernel) rfl, in_RX1, ⟨by decide +kernel, by decide +kernel, by decide +kernel⟩, rfl⟩
theorem yv_X2_comeTo : zYv yX2_comeTo cX2_comeTo 4 none 3 2 := ⟨(tbl1 508 (by decide +kernel) rfl), tbl1 507 (by decide +kernel) rfl, tbl_mem (List.mem_append_left _ (by decide +kernel)) rfl, in_RX2, ⟨by decide +kernel, by decide +kernel, by decide +kernel⟩, rfl⟩
theorem yv_X2_howFar : zYv yX2_howFar cX2_howFar 2 (some .int) 1 2 := ⟨(tbl1 512 (by decide +kernel) rfl), tbl1 510 (by decide +kernel) rfl, tbl1 511 (by decide +kernel) rfl, in_RX2, ⟨by decide +kernel, by decide +kernel, by decide +kernel⟩, rfl⟩
theorem yv_X2_figureOnWay : zYv yX2_figureOnWay cX2_figureOnWay 5 (some .int) 2 2 := ⟨(tbl1 516 (by decide +kernel) rfl), tbl1 514 (by decide +kernel) rfl, tbl1 515 (by decide +kernel) rfl, in_RX2, ⟨by decide +kernel, by decide +kernel, by decide +kernel⟩, rfl⟩
theorem yv_X5_sorts : zYv yX5_sorts cX5_sorts 1 (some .int) 0 5 := ⟨(tbl1 520 (by decide +kernel) rfl), tbl1 518 (by decide +kernel) rfl, tbl1 519 (by decide +kernel) rfl, in_RX5, ⟨by decide +kernel, by decide +kernel, by decide +kernel⟩, rfl⟩
theorem yv_X5_apart : zYv yX5_apart cX5_apart 5 (some .int) 3 5 := ⟨(tbl1 524 (by decide +kernel) rfl), tbl1 522 (by decide +kernel) rfl, tbl1 523 (by decide +kernel) rfl, in_RX5, ⟨by decide +kernel, by decide +kernel, by decide +kernel⟩, rfl⟩
theorem yv_X2_widestPair : zYv yX2_widestPair cX2_widestPair 3 (some .int) 0 2 := ⟨(tbl1 528 (by decide +kernel) rfl), tbl1 526 (by decide +kernel) rfl, tbl1 527 (by decide +kernel) rfl, in_RX2, ⟨by decide +kernel, by decide +kernel, by decide +kernel⟩, rfl⟩
theorem ys_X5_span : zYs yX5_span cX5_span 3 (some .int) 1 := ⟨(tbl1 531 (by decide +kernel) rfl), tbl1 530 (by decide +kernel) rfl, in_RX5, by decide +kernel, by decide +kernel, by decide +kernel⟩
theorem yv_X5_chance : zYv yX5_chance cX5_chance 7 (some .int) 4 5 := ⟨(tbl1 536 (by decide +kernel) rfl), tbl1 534 (by decide +kernel) rfl, tbl1 535 (by decide +kernel) rfl, in_RX5, ⟨by decide +kernel, by decide +kernel, by decide +kernel⟩, rfl⟩
theorem yv_X5_countWays : zYv yX5_countWays cX5_countWays 4 none 2 5 := ⟨(tbl1 540 (by decide +kernel) rfl), tbl1 539 (by decide +kernel) rfl, tbl_mem (List.mem_append_left _ (by decide +kernel)) rfl, in_RX5, ⟨by decide +kernel, by decide +kernel, by decide +kernel⟩, rfl⟩
theorem yv_X5_countWaysOn : zYv yX5_countWaysOn cX5_countWaysOn 3 none 0 5 := ⟨(tbl1 544 (by decide +kernel) rfl), tbl1 543 (by decide +kernel) rfl, tbl_mem (List.mem_append_left _ (by decide +kernel)) rfl, in_RX5, ⟨by decide +kernel, by decide +kernel, by decide +kernel⟩, rfl⟩
theorem yv_X5_image : zYv yX5_image cX5_image 1 (some .int) 0 5 := ⟨(tbl1 548 (by decide +kernel) rfl), tbl1 546 (by decide +kernel) rfl, tbl1 547 (by decide +kernel) rfl, in_RX5, ⟨by decide +kernel, by decide +kernel, by decide +kernel⟩, rfl⟩
theorem yv_X5_restore : zYv yX5_restore cX5_restore 1 (some .int) 0 5 := ⟨(tbl1 552 (by decide +kernel) rfl), tbl1 550 (by decide +kernel) rfl, tbl1 551 (by decide +kernel) rfl, in_RX5, ⟨by decide +kernel, by decide +kernel, by decide +kernel⟩, rfl⟩
theorem yv_X5_counts : zYv yX5_counts cX5_counts 13 (some .int) 6 5 := ⟨(tbl1 556 (by decide +kernel) rfl), tbl1 554 (by decide +kernel) rfl, tbl1 555 (by decide +kernel) rfl, in_RX5, ⟨by decide +kernel, by decide +kernel, by decide +kernel⟩, rfl⟩
theorem ys_X5_isSheet : zYs yX5_isSheet cX5_isSheet 1 (some .boolean) 1 := ⟨(tbl1 559 (by decide +kernel) rfl), tbl1 558 (by decide +kernel) rfl, in_RX5, by decide +kernel, by decide +kernel, by decide +kernel⟩
theorem ys_X5_isLane : zYs yX5_isLane cX5_isLane 1 (some .boolean) 1 := ⟨(tbl1 562 (by decide +kernel) rfl), tbl1 561 (by decide +kernel) rfl, in_RX5, by decide +kernel, by decide +kernel, by decide +kernel⟩
theorem yv_X3_refused : zYv yX3_refused cX3_refused 5 (some .int) 4 3 := ⟨(tbl1 566 (by decide +kernel) rfl), tbl1 564 (by decide +kernel) rfl, tbl1 565 (by decide +kernel) rfl, in_RX3, ⟨by decide +kernel, by decide +kernel, by decide +kernel⟩, rfl⟩
theorem yv_X3_isThere : zYv yX3_isThere cX3_isThere 2 (some .boolean) 1 3 := ⟨(tbl1 570 (by decide +kernel) rfl), tbl1 568 (by decide +kernel) rfl, tbl1 569 (by decide +kernel) rfl, in_RX3, ⟨by decide +kernel, by decide +kernel, by decide +kernel⟩, rfl⟩
theorem yv_X3_hasItems : zYv yX3_hasItems cX3_hasItems 4 (some .boolean) 3 3 := ⟨(tbl1 574 (by decide +kernel) rfl), tbl1 572 (by decide +kernel) rfl, tbl1 573 (by decide +kernel) rfl, in_RX3, ⟨by decide +kernel, by decide +kernel, by decide +kernel⟩, rfl⟩
theorem yv_X5_isSeenAsTold : zYv yX5_isSeenAsTold cX5_isSeenAsTold 7 (some .boolean) 5 5 := ⟨(tbl1 578 (by decide +kernel) rfl), tbl1 577 (by decide +kernel) rfl, tbl_mem (List.mem_append_left _ (by decide +kernel)) rfl, in_RX5, ⟨by decide +kernel, by decide +kernel, by decide +kernel⟩, rfl⟩
theorem yv_X3_itemOf : zYv yX3_itemOf cX3_itemOf 3 (some .long) 2 3 := ⟨(tbl1 582 (by decide +kernel) rfl), tbl1 580 (by decide +kernel) rfl, tbl1 581 (by decide +kernel) rfl, in_RX3, ⟨by decide +kernel, by decide +kernel, by decide +kernel⟩, rfl⟩
theorem ys_J9_max_7cf53 : zYs yJ9_max_7cf53 cJ9_max_7cf53 2 (some .int) 2 := ⟨(tbl1 586 (by decide +kernel) rfl), tbl1 585 (by decide +kernel) rfl, in_RJ9, by decide +kernel, by decide +kernel, by decide +kernel⟩
theorem yv_X5_steps : zYv yX5_steps cX5_steps 12 (some .int) 7 5 := ⟨(tbl1 590 (by decide +kernel) rfl), tbl1 588 (by decide +kernel) rfl, tbl1 589 (by decide +kernel) rfl, in_RX5, ⟨by decide +kernel, by decide +kernel, by decide +kernel⟩, rfl⟩
theorem yv_X5_goesAsTold : zYv yX5_goesAsTold cX5_goesAsTold 8 (some .boolean) 5 5 := ⟨(tbl1 595 (by decide +kernel) rfl), tbl1 594 (by decide +kernel) rfl, tbl_mem (List.mem_append_left _ (by decide +kernel)) rfl, in_RX5, ⟨by decide +kernel, by decide +kernel, by decide +kernel⟩, rfl⟩
theorem yv_X5_film : zYv yX5_film cX5_film 9 (some .int) 5 5 := ⟨(tbl1 599 (by decide +kernel) rfl), tbl1 597 (by decide +kernel) rfl, tbl1 598 (by decide +kernel) rfl, in_RX5, ⟨by decide +kernel, by decide +kernel, by decide +kernel⟩, rfl⟩
theorem yv_X3_put : zYv yX3_put cX3_put 5 none 3 3 := ⟨(tbl1 603 (by decide +kernel) rfl), tbl1 601 (by decide +kernel) rfl, tbl1 602 (by decide +kernel) rfl, in_RX3, ⟨by decide +kernel, by decide +kernel, by decide +kernel⟩, rfl⟩
theorem ys_X3_lowestBits : zYs yX3_lowestBits cX3_lowestBits 3 (some .long) 2 := ⟨(tbl1 606 (by decide +kernel) rfl), tbl1 605 (by decide +kernel) rfl, in_RX3, by decide +kernel, by decide +kernel, by decide +kernel⟩
theorem yv_X5_sheet : zYv yX5_sheet cX5_sheet 4 (some .int) 3 5 := ⟨(tbl1 610 (by decide +kernel) rfl), tbl1 608 (by decide +kernel) rfl, tbl1 609 (by decide +kernel) rfl, in_RX5, ⟨by decide +kernel, by decide +kernel, by decide +kernel⟩, rfl⟩
theorem yv_X3_renew : zYv yX3_renew cX3_renew 5 none 3 3 := ⟨(tbl1 614 (by decide +kernel) rfl), tbl1 612 (by decide +kernel) rfl, tbl1 613 (by decide +kernel) rfl, in_RX3, ⟨by decide +kernel, by decide +kernel, by decide +kernel⟩, rfl⟩
theorem yv_X5_drop : zYv yX5_drop cX5_drop 2 (some .int) 1 5 := ⟨(tbl1 618 (by decide +kernel) rfl), tbl1 616 (by decide +kernel) rfl, tbl1 617 (by decide +kernel) rfl, in_RX5, ⟨by decide +kernel, by decide +kernel, by decide +kernel⟩, rfl⟩
theorem yv_X3_takeAway : zYv yX3_takeAway cX3_takeAway 2 (some .int) 1 3 := ⟨(tbl1 623 (by decide +kernel) rfl), tbl1 621 (by decide +kernel) rfl, tbl1 622 (by decide +kernel) rfl, in_RX3, ⟨by decide +kernel, by decide +kernel, by decide +kernel⟩, rfl⟩
theorem yv_X5_item : zYv yX5_item cX5_item 7 (some .int) 4 5 := ⟨(tbl1 627 (by decide +kernel) rfl), tbl1 625 (by decide +kernel) rfl, tbl1 626 (by decide +kernel) rfl, in_RX5, ⟨by decide +kernel, by decide +kernel, by decide +kernel⟩, rfl⟩
theorem yv_X5_copy : zYv yX5_copy cX5_copy 6 (some .int) 5 5 := ⟨(tbl1 631 (by decide +kernel) rfl), tbl1 629 (by decide +kernel) rfl, tbl1 630 (by decide +kernel) rfl, in_RX5, ⟨by decide +kernel, by decide +kernel, by decide +kernel⟩, rfl⟩
theorem yv_X3_carry : zYv yX3_carry cX3_carry 6 none 5 3 := ⟨(tbl1 636 (by decide +kernel) rfl), tbl1 634 (by decide +kernel) rfl, tbl1 635 (by decide +kernel) rfl, in_RX3, ⟨by decide +kernel, by decide +kernel, by decide +kernel⟩, rfl⟩
theorem yv_X6_angel : zYv yX6_angel cX6_angel 2 (some .int) 1 6 := ⟨(tbl1 696 (by decide +kernel) rfl), tbl1 694 (by decide +kernel) rfl, tbl1 695 (by decide +kernel) rfl, in_RX6, ⟨by decide +kernel, by decide +kernel, by decide +kernel⟩, rfl⟩
theorem ys_X6_isPlace : zYs yX6_isPlace cX6_isPlace 1 (some .boolean) 1 := ⟨(tbl1 699 (by decide +kernel) rfl), tbl1 698 (by decide +kernel) rfl, in_RX6, by decide +kernel, by decide +kernel, by decide +kernel⟩
theorem ys_X6_in : zYs yX6_in cX6_in 6 (some .boolean) 3 := ⟨(tbl1 703 (by decide +kernel) rfl), tbl1 702 (by decide +kernel) rfl, in_RX6, by decide +kernel, by decide +kernel, by decide +kernel⟩
theorem yv_X6_taken : zYv yX6_taken cX6_taken 3 (some .int) 0 6 := ⟨(tbl1 707 (by decide +kernel) rfl), tbl1 706 (by decide +kernel) rfl, tbl_mem (List.mem_append_left _ (by decide +kernel)) rfl, in_RX6, ⟨by decide +kernel, by decide +kernel, by decide +kernel⟩, rfl⟩
theorem ys_X6_has : zYs yX6_has cX6_has 2 (some .boolean) 2 := ⟨(tbl1 710 (by decide +kernel) rfl), tbl1 709 (by decide +kernel) rfl, in_RX6, by decide +kernel, by decide +kernel, by decide +kernel⟩
theorem yv_X6_figure : zYv yX6_figure cX6_figure 3 (some .int) 2 6 := ⟨(tbl1 714 (by decide +kernel) rfl), tbl1 712 (by decide +kernel) rfl, tbl1 713 (by decide +kernel) rfl, in_RX6, ⟨by decide +kernel, by decide +kernel, by decide +kernel⟩, rfl⟩
theorem yv_X6_tune : zYv yX6_tune cX6_tune 2 (some .int) 1 6 := ⟨(tbl1 719 (by decide +kernel) rfl), tbl1 717 (by decide +kernel) rfl, tbl1 718 (by decide +kernel) rfl, in_RX6, ⟨by decide +kernel, by decide +kernel, by decide +kernel⟩, rfl⟩
theorem yv_X6_isFigure : zYv yX6_isFigure cX6_isFigure 2 (some .boolean) 1 6 := ⟨(tbl1 723 (by decide +kernel) rfl), tbl1 722 (by decide +kernel) rfl, tbl_mem (List.mem_append_left _ (by decide +kernel)) rfl, in_RX6, ⟨by decide +kernel, by decide +kernel, by decide +kernel⟩, rfl⟩
theorem yv_X6_hush : zYv yX6_hush cX6_hush 2 (some .int) 0 6 := ⟨(tbl1 727 (by decide +kernel) rfl), tbl1 725 (by decide +kernel) rfl, tbl1 726 (by decide +kernel) rfl, in_RX6, ⟨by decide +kernel, by decide +kernel, by decide +kernel⟩, rfl⟩
theorem yv_X6_of : zYv yX6_of cX6_of 3 (some .int) 2 6 := ⟨(tbl1 731 (by decide +kernel) rfl), tbl1 729 (by decide +kernel) rfl, tbl1 730 (by decide +kernel) rfl, in_RX6, ⟨by decide +kernel, by decide +kernel, by decide +kernel⟩, rfl⟩
theorem yv_X6_orderOf : zYv yX6_orderOf cX6_orderOf 5 (some .int) 1 6 := ⟨(tbl1 735 (by decide +kernel) rfl), tbl1 734 (by decide +kernel) rfl, tbl_mem (List.mem_append_left _ (by decide +kernel)) rfl, in_RX6, ⟨by decide +kernel, by decide +kernel, by decide +kernel⟩, rfl⟩
theorem yv_X6_leadsOf : zYv yX6_leadsOf cX6_leadsOf 3 (some .int) 2 6 := ⟨(tbl1 739 (by decide +kernel) rfl), tbl1 738 (by decide +kernel) rfl, tbl_mem (List.mem_append_left _ (by decide +kernel)) rfl, in_RX6, ⟨by decide +kernel, by decide +kernel, by decide +kernel⟩, rfl⟩
theorem ys_X6_leadsBy : zYs yX6_leadsBy cX6_leadsBy 3 (some .int) 3 := ⟨(tbl1 742 (by decide +kernel) rfl), tbl1 741 (by decide +kernel) rfl, in_RX6, by decide +kernel, by decide +kernel, by decide +kernel⟩
theorem ys_X6_round : zYs yX6_round cX6_round 2 (some .int) 2 := ⟨(tbl1 745 (by decide +kernel) rfl), tbl1 744 (by decide +kernel) rfl, in_RX6, by decide +kernel, by decide +kernel, by decide +kernel⟩
theorem ys_X6_mirror : zYs yX6_mirror cX6_mirror 2 (some .int) 2 := ⟨(tbl1 748 (by decide +kernel) rfl), tbl1 747 (by decide +kernel) rfl, in_RX6, by decide +kernel, by decide +kernel, by decide +kernel⟩
theorem yv_X6_keptBy : zYv yX6_keptBy cX6_keptBy 4 (some .int) 1 6 := ⟨(tbl1 752 (by decide +kernel) rfl), tbl1 751 (by decide +kernel) rfl, tbl_mem (List.mem_append_left _ (by decide +kernel)) rfl, in_RX6, ⟨by decide +kernel, by decide +kernel, by decide +kernel⟩, rfl⟩
theorem yv_X6_sameAs : zYv yX6_sameAs cX6_sameAs 3 (some .int) 1 6 := ⟨(tbl1 756 (by decide +kernel) rfl), tbl1 755 (by decide +kernel) rfl, tbl_mem (List.mem_append_left _ (by decide +kernel)) rfl, in_RX6, ⟨by decide +kernel, by decide +kernel, by decide +kernel⟩, rfl⟩
theorem yv_X6_areAlike : zYv yX6_areAlike cX6_areAlike 5 (some .boolean) 2 6 := ⟨(tbl1 760 (by decide +kernel) rfl), tbl1 759 (by decide +kernel) rfl, tbl_mem (List.mem_append_left _ (by decide +kernel)) rfl, in_RX6, ⟨by decide +kernel, by decide +kernel, by decide +kernel⟩, rfl⟩
theorem yv_X6_leads : zYv yX6_leads cX6_leads 3 (some .int) 2 6 := ⟨(tbl1 764 (by decide +kernel) rfl), tbl1 762 (by decide +kernel) rfl, tbl1 763 (by decide +kernel) rfl, in_RX6, ⟨by decide +kernel, by decide +kernel, by decide +kernel⟩, rfl⟩
theorem yv_X6_at : zYv yX6_at cX6_at 2 (some .int) 1 6 := ⟨(tbl1 768 (by decide +kernel) rfl), tbl1 766 (by decide +kernel) rfl, tbl1 767 (by decide +kernel) rfl, in_RX6, ⟨by decide +kernel, by decide +kernel, by decide +kernel⟩, rfl⟩
theorem yv_X6_isAngel : zYv yX6_isAngel cX6_isAngel 2 (some .boolean) 1 6 := ⟨(tbl1 772 (by decide +kernel) rfl), tbl1 771 (by decide +kernel) rfl, tbl_mem (List.mem_append_left _ (by decide +kernel)) rfl, in_RX6, ⟨by decide +kernel, by decide +kernel, by decide +kernel⟩, rfl⟩
theorem yv_X6_seen : zYv yX6_seen cX6_seen 2 (some .int) 1 6 := ⟨(tbl1 776 (by decide +kernel) rfl), tbl1 774 (by decide +kernel) rfl, tbl1 775 (by decide +kernel) rfl, in_RX6, ⟨by decide +kernel, by decide +kernel, by decide +kernel⟩, rfl⟩
theorem ys_X6_seenOf : zYs yX6_seenOf cX6_seenOf 7 (some .int) 2 := ⟨(tbl1 779 (by decide +kernel) rfl), tbl1 778 (by decide +kernel) rfl, in_RX6, by decide +kernel, by decide +kernel, by decide +kernel⟩
theorem yv_X6_type : zYv yX6_type cX6_type 2 (some .int) 1 6 := ⟨(tbl1 783 (by decide +kernel) rfl), tbl1 781 (by decide +kernel) rfl, tbl1 782 (by decide +kernel) rfl, in_RX6, ⟨by decide +kernel, by decide +kernel, by decide +kernel⟩, rfl⟩
theorem yv_X6_ring : zYv yX6_ring cX6_ring 2 (some .int) 0 6 := ⟨(tbl1 789 (by decide +kernel) rfl), tbl1 787 (by decide +kernel) rfl, tbl1 788 (by decide +kernel) rfl, in_RX6, ⟨by decide +kernel, by decide +kernel, by decide +kernel⟩, rfl⟩
theorem yv_X6_takesRing : zYv yX6_takesRing cX6_takesRing 1 (some .boolean) 0 6 := ⟨(tbl1 793 (by decide +kernel) rfl), tbl1 792 (by decide +kernel) rfl, tbl_mem (List.mem_append_left _ (by decide +kernel)) rfl, in_RX6, ⟨by decide +kernel, by decide +kernel, by decide +kernel⟩, rfl⟩
theorem yv_X6_takesPlaces : zYv yX6_takesPlaces cX6_takesPlaces 3 (some .boolean) 0 6 := ⟨(tbl1 797 (by decide +kernel) rfl), tbl1 796 (by decide +kernel) rfl, tbl_mem (List.mem_append_left _ (by decide +kernel)) rfl, in_RX6, ⟨by decide +kernel, by decide +kernel, by decide +kernel⟩, rfl⟩
theorem yv_X6_peek : zYv yX6_peek cX6_peek 1 (some .int) 0 6 := ⟨(tbl1 801 (by decide +kernel) rfl), tbl1 800 (by decide +kernel) rfl, tbl_mem (List.mem_append_left _ (by decide +kernel)) rfl, in_RX6, ⟨by decide +kernel, by decide +kernel, by decide +kernel⟩, rfl⟩
theorem yv_X6_takes : zYv yX6_takes cX6_takes 2 (some .boolean) 1 6 := ⟨(tbl1 805 (by decide +kernel) rfl), tbl1 804 (by decide +kernel) rfl, tbl_mem (List.mem_append_left _ (by decide +kernel)) rfl, in_RX6, ⟨by decide +kernel, by decide +kernel, by decide +kernel⟩, rfl⟩
theorem yv_X6_takesFigure : zYv yX6_takesFigure cX6_takesFigure 3 (some .boolean) 0 6 := ⟨(tbl1 809 (by decide +kernel) rfl), tbl1 808 (by decide +kernel) rfl, tbl_mem (List.mem_append_left _ (by decide +kernel)) rfl, in_RX6, ⟨by decide +kernel, by decide +kernel, by decide +kernel⟩, rfl⟩
theorem ys_X6_kindOf : zYs yX6_kindOf cX6_kindOf 1 (some .int) 1 := ⟨(tbl1 812 (by decide +kernel) rfl), tbl1 811 (by decide +kernel) rfl, in_RX6, by decide +kernel, by decide +kernel, by decide +kernel⟩
theorem yv_X6_takesTune : zYv yX6_takesTune cX6_takesTune 2 (some .boolean) 0 6 := ⟨(tbl1 816 (by decide +kernel) rfl), tbl1 815 (by decide +kernel) rfl, tbl_mem (List.mem_append_left _ (by decide +kernel)) rfl, in_RX6, ⟨by decide +kernel, by decide +kernel, by decide +kernel⟩, rfl⟩
theorem yv_X6_bring : zYv yX6_bring cX6_bring 5 none 3 6 := ⟨(tbl1 820 (by decide +kernel) rfl), tbl1 819 (by decide +kernel) rfl, tbl_mem (List.mem_append_left _ (by decide +kernel)) rfl, in_RX6, ⟨by decide +kernel, by decide +kernel, by decide +kernel⟩, rfl⟩
theorem yv_X6_count : zYv yX6_count cX6_count 2 (some .int) 1 6 := ⟨(tbl1 824 (by decide +kernel) rfl), tbl1 822 (by decide +kernel) rfl, tbl1 823 (by decide +kernel) rfl, in_RX6, ⟨by decide +kernel, by decide +kernel, by decide +kernel⟩, rfl⟩
theorem yv_X6_goneOnes : zYv yX6_goneOnes cX6_goneOnes 3 (some .int) 0 6 := ⟨(tbl1 828 (by decide +kernel) rfl), tbl1 827 (by decide +kernel) rfl, tbl_mem (List.mem_append_left _ (by decide +kernel)) rfl, in_RX6, ⟨by decide +kernel, by decide +kernel, by decide +kernel⟩, rfl⟩
theorem yv_X6_beats : zYv yX6_beats cX6_beats 3 (some .int) 1 6 := ⟨(tbl1 832 (by decide +kernel) rfl), tbl1 830 (by decide +kernel) rfl, tbl1 831 (by decide +kernel) rfl, in_RX6, ⟨by decide +kernel, by decide +kernel, by decide +kernel⟩, rfl⟩
theorem yv_X6_minds : zYv yX6_minds cX6_minds 1 none 0 6 := ⟨(tbl1 837 (by decide +kernel) rfl), tbl1 836 (by decide +kernel) rfl, tbl_mem (List.mem_append_left _ (by decide +kernel)) rfl, in_RX6, ⟨by decide +kernel, by decide +kernel, by decide +kernel⟩, rfl⟩
theorem yv_X6_passes : zYv yX6_passes cX6_passes 2 none 0 6 := ⟨(tbl1 841 (by decide +kernel) rfl), tbl1 840 (by decide +kernel) rfl, tbl_mem (List.mem_append_left _ (by decide +kernel)) rfl, in_RX6, ⟨by decide +kernel, by decide +kernel, by decide +kernel⟩, rfl⟩
theorem yv_X6_draught : zYv yX6_draught cX6_draught 2 (some .int) 1 6 := ⟨(tbl1 845 (by decide +kernel) rfl), tbl1 843 (by decide +kernel) rfl, tbl1 844 (by decide +kernel) rfl, in_RX6, ⟨by decide +kernel, by decide +kernel, by decide +kernel⟩, rfl⟩
theorem yv_X6_blows : zYv yX6_blows cX6_blows 3 none 1 6 := ⟨(tbl1 849 (by decide +kernel) rfl), tbl1 848 (by decide +kernel) rfl, tbl_mem (List.mem_append_left _ (by decide +kernel)) rfl, in_RX6, ⟨by decide +kernel, by decide +kernel, by decide +kernel⟩, rfl⟩
theorem yv_X6_leave : zYv yX6_leave cX6_leave 3 (some .int) 1 6 := ⟨(tbl1 853 (by decide +kernel) rfl), tbl1 851 (by decide +kernel) rfl, tbl1 852 (by decide +kernel) rfl, in_RX6, ⟨by decide +kernel, by decide +kernel, by decide +kernel⟩, rfl⟩
theorem yv_X6_come : zYv yX6_come cX6_come 3 (some .int) 2 6 := ⟨(tbl1 857 (by decide +kernel) rfl), tbl1 855 (by decide +kernel) rfl, tbl1 856 (by decide +kernel) rfl, in_RX6, ⟨by decide +kernel, by decide +kernel, by decide +kernel⟩, rfl⟩
theorem ys_X6_ones : zYs yX6_ones cX6_ones 3 (some .int) 1 := ⟨(tbl1 860 (by decide +kernel) rfl), tbl1 859 (by decide +kernel) rfl, in_RX6, by decide +kernel, by decide +kernel, by decide +kernel⟩
theorem yv_X6_drift : zYv yX6_drift cX6_drift 3 (some .int) 1 6 := ⟨(tbl1 864 (by decide +kernel) rfl), tbl1 862 (by decide +kernel) rfl, tbl1 863 (by decide +kernel) rfl, in_RX6, ⟨by decide +kernel, by decide +kernel, by decide +kernel⟩, rfl⟩
theorem yv_X6_undo : zYv yX6_undo cX6_undo 1 (some .int) 0 6 := ⟨(tbl1 872 (by decide +kernel) rfl), tbl1 870 (by decide +kernel) rfl, tbl1 871 (by decide +kernel) rfl, in_RX6, ⟨by decide +kernel, by decide +kernel, by decide +kernel⟩, rfl⟩
theorem yv_X6_seed : zYv yX6_seed cX6_seed 3 (some .int) 1 6 := ⟨(tbl1 876 (by decide +kernel) rfl), tbl1 874 (by decide +kernel) rfl, tbl1 875 (by decide +kernel) rfl, in_RX6, ⟨by decide +kernel, by decide +kernel, by decide +kernel⟩, rfl⟩
theorem yv_X6_ahead : zYv yX6_ahead cX6_ahead 3 (some .int) 2 6 := ⟨(tbl1 880 (by decide +kernel) rfl), tbl1 878 (by decide +kernel) rfl, tbl1 879 (by decide +kernel) rfl, in_RX6, ⟨by decide +kernel, by decide +kernel, by decide +kernel⟩, rfl⟩
theorem ys_X6_isTime : zYs yX6_isTime cX6_isTime 1 (some .boolean) 1 := ⟨(tbl1 883 (by decide +kernel) rfl), tbl1 882 (by decide +kernel) rfl, in_RX6, by decide +kernel, by decide +kernel, by decide +kernel⟩
theorem yv_X6_behind : zYv yX6_behind cX6_behind 6 (some .int) 2 6 := ⟨(tbl1 888 (by decide +kernel) rfl), tbl1 887 (by decide +kernel) rfl, tbl_mem (List.mem_append_left _ (by decide +kernel)) rfl, in_RX6, ⟨by decide +kernel, by decide +kernel, by decide +kernel⟩, rfl⟩
theorem yv_X6_ringOf : zYv yX6_ringOf cX6_ringOf 4 (some .int) 1 6 := ⟨(tbl1 892 (by decide +kernel) rfl), tbl1 891 (by decide +kernel) rfl, tbl_mem (List.mem_append_left _ (by decide +kernel)) rfl, in_RX6, ⟨by decide +kernel, by decide +kernel, by decide +kernel⟩, rfl⟩
theorem yv_X6_goesBy : zYv yX6_goesBy cX6_goesBy 5 (some .int) 2 6 := ⟨(tbl1 896 (by decide +kernel) rfl), tbl1 895 (by decide +kernel) rfl, tbl_mem (List.mem_append_left _ (by decide +kernel)) rfl, in_RX6, ⟨by decide +kernel, by decide +kernel, by decide +kernel⟩, rfl⟩
theorem yv_X6_then : zYv yX6_then cX6_then 8 (some .int) 3 6 := ⟨(tbl1 900 (by decide +kernel) rfl), tbl1 898 (by decide +kernel) rfl, tbl1 899 (by decide +kernel) rfl, in_RX6, ⟨by decide +kernel, by decide +kernel, by decide +kernel⟩, rfl⟩
theorem yv_X6_back : zYv yX6_back cX6_back 6 (some .int) 1 6 := ⟨(tbl1 904 (by decide +kernel) rfl), tbl1 902 (by decide +kernel) rfl, tbl1 903 (by decide +kernel) rfl, in_RX6, ⟨by decide +kernel, by decide +kernel, by decide +kernel⟩, rfl⟩
theorem yv_X6_been : zYv yX6_been cX6_been 6 (some .int) 1 6 := ⟨(tbl1 908 (by decide +kernel) rfl), tbl1 906 (by decide +kernel) rfl, tbl1 907 (by decide +kernel) rfl, in_RX6, ⟨by decide +kernel, by decide +kernel, by decide +kernel⟩, rfl⟩
theorem yv_X6_shortest : zYv yX6_shortest cX6_shortest 7 (some .int) 2 6 := ⟨(tbl1 912 (by decide +kernel) rfl), tbl1 910 (by decide +kernel) rfl, tbl1 911 (by decide +kernel) rfl, in_RX6, ⟨by decide +kernel, by decide +kernel, by decide +kernel⟩, rfl⟩
theorem yv_X6_laysLeft : zYv yX6_laysLeft cX6_laysLeft 6 none 1 6 := ⟨(tbl1 917 (by decide +kernel) rfl), tbl1 916 (by decide +kernel) rfl, tbl_mem (List.mem_append_left _ (by decide +kernel)) rfl, in_RX6, ⟨by decide +kernel, by decide +kernel, by decide +kernel⟩, rfl⟩
theorem yv_X6_ledBy : zYv yX6_ledBy cX6_ledBy 5 (some .int) 2 6 := ⟨(tbl1 922 (by decide +kernel) rfl), tbl1 921 (by decide +kernel) rfl, tbl_mem (List.mem_append_left _ (by decide +kernel)) rfl, in_RX6, ⟨by decide +kernel, by decide +kernel, by decide +kernel⟩, rfl⟩
theorem yv_X6_sorts : zYv yX6_sorts cX6_sorts 1 (some .int) 0 6 := ⟨(tbl1 926 (by decide +kernel) rfl), tbl1 924 (by decide +kernel) rfl, tbl1 925 (by decide +kernel) rfl, in_RX6, ⟨by decide +kernel, by decide +kernel, by decide +kernel⟩, rfl⟩
theorem yv_X6_laysFar : zYv yX6_laysFar cX6_laysFar 6 (some .int) 1 6 := ⟨(tbl1 930 (by decide +kernel) rfl), tbl1 929 (by decide +kernel) rfl, tbl_mem (List.mem_append_left _ (by decide +kernel)) rfl, in_RX6, ⟨by decide +kernel, by decide +kernel, by decide +kernel⟩, rfl⟩
theorem yv_X6_apart : zYv yX6_apart cX6_apart 12 (some .int) 3 6 := ⟨(tbl1 934 (by decide +kernel) rfl), tbl1 932 (by decide +kernel) rfl, tbl1 933 (by decide +kernel) rfl, in_RX6, ⟨by decide +kernel, by decide +kernel, by decide +kernel⟩, rfl⟩
theorem ys_X6_apartBy : zYs yX6_apartBy cX6_apartBy 3 (some .int) 2 := ⟨(tbl1 937 (by decide +kernel) rfl), tbl1 936 (by decide +kernel) rfl, in_RX6, by decide +kernel, by decide +kernel, by decide +kernel⟩
theorem yv_X6_chance : zYv yX6_chance cX6_chance 13 (some .int) 4 6 := ⟨(tbl1 941 (by decide +kernel) rfl), tbl1 939 (by decide +kernel) rfl, tbl1 940 (by decide +kernel) rfl, in_RX6, ⟨by decide +kernel, by decide +kernel, by decide +kernel⟩, rfl⟩
theorem yv_X6_image : zYv yX6_image cX6_image 1 (some .int) 0 6 := ⟨(tbl1 946 (by decide +kernel) rfl), tbl1 944 (by decide +kernel) rfl, tbl1 945 (by decide +kernel) rfl, in_RX6, ⟨by decide +kernel, by decide +kernel, by decide +kernel⟩, rfl⟩
theorem yv_X6_restore : zYv yX6_restore cX6_restore 1 (some .int) 0 6 := ⟨(tbl1 950 (by decide +kernel) rfl), tbl1 948 (by decide +kernel) rfl, tbl1 949 (by decide +kernel) rfl, in_RX6, ⟨by decide +kernel, by decide +kernel, by decide +kernel⟩, rfl⟩
theorem yv_X6_counts : zYv yX6_counts cX6_counts 14 (some .int) 6 6 := ⟨(tbl1 954 (by decide +kernel) rfl), tbl1 952 (by decide +kernel) rfl, tbl1 953 (by decide +kernel) rfl, in_RX6, ⟨by decide +kernel, by decide +kernel, by decide +kernel⟩, rfl⟩
theorem ys_X6_isLane : zYs yX6_isLane cX6_isLane 2 (some .boolean) 2 := ⟨(tbl1 957 (by decide +kernel) rfl), tbl1 956 (by decide +kernel) rfl, in_RX6, by decide +kernel, by decide +kernel, by decide +kernel⟩
theorem ys_X6_isSheet : zYs yX6_isSheet cX6_isSheet 1 (some .boolean) 1 := ⟨(tbl1 960 (by decide +kernel) rfl), tbl1 959 (by decide +kernel) rfl, in_RX6, by decide +kernel, by decide +kernel, by decide +kernel⟩
theorem yv_X6_against : zYv yX6_against cX6_against 5 (some .int) 4 6 := ⟨(tbl1 966 (by decide +kernel) rfl), tbl1 965 (by decide +kernel) rfl, tbl_mem (List.mem_append_left _ (by decide +kernel)) rfl, in_RX6, ⟨by decide +kernel, by decide +kernel, by decide +kernel⟩, rfl⟩
theorem yv_X6_steps : zYv yX6_steps cX6_steps 16 (some .int) 7 6 := ⟨(tbl1 970 (by decide +kernel) rfl), tbl1 968 (by decide +kernel) rfl, tbl1 969 (by decide +kernel) rfl, in_RX6, ⟨by decide +kernel, by decide +kernel, by decide +kernel⟩, rfl⟩
theorem yv_X6_film : zYv yX6_film cX6_film 8 (some .int) 5 6 := ⟨(tbl1 974 (by decide +kernel) rfl), tbl1 972 (by decide +kernel) rfl, tbl1 973 (by decide +kernel) rfl, in_RX6, ⟨by decide +kernel, by decide +kernel, by decide +kernel⟩, rfl⟩
theorem yv_X6_sheet : zYv yX6_sheet cX6_sheet 5 (some .int) 3 6 := ⟨(tbl1 979 (by decide +kernel) rfl), tbl1 977 (by decide +kernel) rfl, tbl1 978 (by decide +kernel) rfl, in_RX6, ⟨by decide +kernel, by decide +kernel, by decide +kernel⟩, rfl⟩
theorem yv_X6_drop : zYv yX6_drop cX6_drop 3 (some .int) 1 6 := ⟨(tbl1 983 (by decide +kernel) rfl), tbl1 981 (by decide +kernel) rfl, tbl1 982 (by decide +kernel) rfl, in_RX6, ⟨by decide +kernel, by decide +kernel, by decide +kernel⟩, rfl⟩
theorem yv_X6_item : zYv yX6_item cX6_item 7 (some .int) 4 6 := ⟨(tbl1 987 (by decide +kernel) rfl), tbl1 985 (by decide +kernel) rfl, tbl1 986 (by decide +kernel) rfl, in_RX6, ⟨by decide +kernel, by decide +kernel, by decide +kernel⟩, rfl⟩
theorem ys_X6_lowest : zYs yX6_lowest cX6_lowest 3 (some .long) 2 := ⟨(tbl1 990 (by decide +kernel) rfl), tbl1 989 (by decide +kernel) rfl, in_RX6, by decide +kernel, by decide +kernel, by decide +kernel⟩
theorem yv_X6_copy : zYv yX6_copy cX6_copy 7 (some .int) 5 6 := ⟨(tbl1 994 (by decide +kernel) rfl), tbl1 992 (by decide +kernel) rfl, tbl1 993 (by decide +kernel) rfl, in_RX6, ⟨by decide +kernel, by decide +kernel, by decide +kernel⟩, rfl⟩
end
