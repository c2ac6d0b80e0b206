section
-- ===== PART A: goes FIRST, ahead of the names: the tables' words, and 'selects' of the private methods out of them =====
/-- a private method of a class that the tables say can be made, by its rows of tables_1 -/
def lw_okq (q : MethodName × Nat) : Prop := (q.1.cls ≠ "java/lang/invoke/MethodHandle" ∧ q.1.cls ≠ "java/lang/invoke/VarHandle") ∧ Cond.instantiable q.1.cls q.2 ∈ tables_1 ∧ Cond.privateMethod q.1 ∈ tables_1 ∧ Cond.instanceMethod q.1 ∈ tables_1
theorem lw_p0 : lw_okq (⟨"UnsaidHorse$Page", "fitsPeople", "(I)Z"⟩, 2) := ⟨⟨by decide +kernel, by decide +kernel⟩, List.mem_of_getElem? (i := 23) (by decide +kernel), List.mem_of_getElem? (i := 154) (by decide +kernel), List.mem_of_getElem? (i := 155) (by decide +kernel)⟩
theorem lw_p1 : lw_okq (⟨"UnsaidHorse$Page", "isDigit", "(III)Z"⟩, 2) := ⟨⟨by decide +kernel, by decide +kernel⟩, List.mem_of_getElem? (i := 23) (by decide +kernel), List.mem_of_getElem? (i := 253) (by decide +kernel), List.mem_of_getElem? (i := 254) (by decide +kernel)⟩
theorem lw_p2 : lw_okq (⟨"UnsaidHorse$Page", "fitsAmounts", "(II)Z"⟩, 2) := ⟨⟨by decide +kernel, by decide +kernel⟩, List.mem_of_getElem? (i := 23) (by decide +kernel), List.mem_of_getElem? (i := 261) (by decide +kernel), List.mem_of_getElem? (i := 262) (by decide +kernel)⟩
theorem lw_p3 : lw_okq (⟨"UnsaidHorse$Court", "readPerson", "(IIII)V"⟩, 7) := ⟨⟨by decide +kernel, by decide +kernel⟩, List.mem_of_getElem? (i := 39) (by decide +kernel), List.mem_of_getElem? (i := 281) (by decide +kernel), List.mem_of_getElem? (i := 282) (by decide +kernel)⟩
theorem lw_p4 : lw_okq (⟨"UnsaidHorse$Court", "sumOf", "(I)I"⟩, 7) := ⟨⟨by decide +kernel, by decide +kernel⟩, List.mem_of_getElem? (i := 39) (by decide +kernel), List.mem_of_getElem? (i := 291) (by decide +kernel), List.mem_of_getElem? (i := 292) (by decide +kernel)⟩
theorem lw_p5 : lw_okq (⟨"UnsaidHorse", "fewestWords", "(I)I"⟩, 9) := ⟨⟨by decide +kernel, by decide +kernel⟩, List.mem_of_getElem? (i := 15) (by decide +kernel), List.mem_of_getElem? (i := 425) (by decide +kernel), List.mem_of_getElem? (i := 426) (by decide +kernel)⟩
theorem lw_p6 : lw_okq (⟨"UnsaidHorse", "bestQuestion", "(II)I"⟩, 9) := ⟨⟨by decide +kernel, by decide +kernel⟩, List.mem_of_getElem? (i := 15) (by decide +kernel), List.mem_of_getElem? (i := 482) (by decide +kernel), List.mem_of_getElem? (i := 483) (by decide +kernel)⟩
theorem lw_p7 : lw_okq (⟨"UnsaidHorse", "holdAudiences", "(II)I"⟩, 9) := ⟨⟨by decide +kernel, by decide +kernel⟩, List.mem_of_getElem? (i := 15) (by decide +kernel), List.mem_of_getElem? (i := 498) (by decide +kernel), List.mem_of_getElem? (i := 499) (by decide +kernel)⟩
theorem lw_p8 : lw_okq (⟨"UnsaidHorse", "digestPerson", "(JI)J"⟩, 9) := ⟨⟨by decide +kernel, by decide +kernel⟩, List.mem_of_getElem? (i := 15) (by decide +kernel), List.mem_of_getElem? (i := 533) (by decide +kernel), List.mem_of_getElem? (i := 534) (by decide +kernel)⟩
theorem lw_p9 : lw_okq (⟨"UnsaidHorse", "digestSign", "(JI)J"⟩, 9) := ⟨⟨by decide +kernel, by decide +kernel⟩, List.mem_of_getElem? (i := 15) (by decide +kernel), List.mem_of_getElem? (i := 539) (by decide +kernel), List.mem_of_getElem? (i := 540) (by decide +kernel)⟩
theorem lw_p10 : lw_okq (⟨"UnsaidHorseModel", "read", "()I"⟩, 35) := ⟨⟨by decide +kernel, by decide +kernel⟩, List.mem_of_getElem? (i := 548) (by decide +kernel), List.mem_of_getElem? (i := 675) (by decide +kernel), List.mem_of_getElem? (i := 676) (by decide +kernel)⟩
theorem lw_p11 : lw_okq (⟨"UnsaidHorseModel", "readOne", "(I)I"⟩, 35) := ⟨⟨by decide +kernel, by decide +kernel⟩, List.mem_of_getElem? (i := 548) (by decide +kernel), List.mem_of_getElem? (i := 679) (by decide +kernel), List.mem_of_getElem? (i := 680) (by decide +kernel)⟩
theorem lw_p12 : lw_okq (⟨"UnsaidHorseModel", "isFigure", "(III)Z"⟩, 35) := ⟨⟨by decide +kernel, by decide +kernel⟩, List.mem_of_getElem? (i := 548) (by decide +kernel), List.mem_of_getElem? (i := 686) (by decide +kernel), List.mem_of_getElem? (i := 687) (by decide +kernel)⟩
theorem lw_p13 : lw_okq (⟨"UnsaidHorseModel", "readSigns", "(I)I"⟩, 35) := ⟨⟨by decide +kernel, by decide +kernel⟩, List.mem_of_getElem? (i := 548) (by decide +kernel), List.mem_of_getElem? (i := 690) (by decide +kernel), List.mem_of_getElem? (i := 691) (by decide +kernel)⟩
theorem lw_p14 : lw_okq (⟨"UnsaidHorseModel", "isOne", "(I)Z"⟩, 35) := ⟨⟨by decide +kernel, by decide +kernel⟩, List.mem_of_getElem? (i := 548) (by decide +kernel), List.mem_of_getElem? (i := 702) (by decide +kernel), List.mem_of_getElem? (i := 703) (by decide +kernel)⟩
theorem lw_p15 : lw_okq (⟨"UnsaidHorseModel", "oneNow", "(II)I"⟩, 35) := ⟨⟨by decide +kernel, by decide +kernel⟩, List.mem_of_getElem? (i := 548) (by decide +kernel), List.mem_of_getElem? (i := 706) (by decide +kernel), List.mem_of_getElem? (i := 707) (by decide +kernel)⟩
def lw_privs_1 : List (MethodName × Nat) := [(⟨"UnsaidHorse$Page", "fitsPeople", "(I)Z"⟩, 2), (⟨"UnsaidHorse$Page", "isDigit", "(III)Z"⟩, 2), (⟨"UnsaidHorse$Page", "fitsAmounts", "(II)Z"⟩, 2), (⟨"UnsaidHorse$Court", "readPerson", "(IIII)V"⟩, 7), (⟨"UnsaidHorse$Court", "sumOf", "(I)I"⟩, 7), (⟨"UnsaidHorse", "fewestWords", "(I)I"⟩, 9), (⟨"UnsaidHorse", "bestQuestion", "(II)I"⟩, 9), (⟨"UnsaidHorse", "holdAudiences", "(II)I"⟩, 9), (⟨"UnsaidHorse", "digestPerson", "(JI)J"⟩, 9), (⟨"UnsaidHorse", "digestSign", "(JI)J"⟩, 9), (⟨"UnsaidHorseModel", "read", "()I"⟩, 35), (⟨"UnsaidHorseModel", "readOne", "(I)I"⟩, 35), (⟨"UnsaidHorseModel", "isFigure", "(III)Z"⟩, 35), (⟨"UnsaidHorseModel", "readSigns", "(I)I"⟩, 35), (⟨"UnsaidHorseModel", "isOne", "(I)Z"⟩, 35), (⟨"UnsaidHorseModel", "oneNow", "(II)I"⟩, 35)]
theorem lw_r1 : ∀ q ∈ lw_privs_1, lw_okq q := List.forall_mem_cons.mpr ⟨lw_p0, List.forall_mem_cons.mpr ⟨lw_p1, List.forall_mem_cons.mpr ⟨lw_p2, List.forall_mem_cons.mpr ⟨lw_p3, List.forall_mem_cons.mpr ⟨lw_p4, List.forall_mem_cons.mpr ⟨lw_p5, List.forall_mem_cons.mpr ⟨lw_p6, List.forall_mem_cons.mpr ⟨lw_p7, List.forall_mem_cons.mpr ⟨lw_p8, List.forall_mem_cons.mpr ⟨lw_p9, List.forall_mem_cons.mpr ⟨lw_p10, List.forall_mem_cons.mpr ⟨lw_p11, List.forall_mem_cons.mpr ⟨lw_p12, List.forall_mem_cons.mpr ⟨lw_p13, List.forall_mem_cons.mpr ⟨lw_p14, List.forall_mem_cons.mpr ⟨lw_p15, fun _ h => absurd h List.not_mem_nil⟩⟩⟩⟩⟩⟩⟩⟩⟩⟩⟩⟩⟩⟩⟩⟩
theorem lw_p16 : lw_okq (⟨"UnsaidHorseModel", "tellAll", "(I)I"⟩, 35) := ⟨⟨by decide +kernel, by decide +kernel⟩, List.mem_of_getElem? (i := 548) (by decide +kernel), List.mem_of_getElem? (i := 710) (by decide +kernel), List.mem_of_getElem? (i := 711) (by decide +kernel)⟩
theorem lw_p17 : lw_okq (⟨"UnsaidHorseModel", "infers", "(I)Z"⟩, 35) := ⟨⟨by decide +kernel, by decide +kernel⟩, List.mem_of_getElem? (i := 548) (by decide +kernel), List.mem_of_getElem? (i := 717) (by decide +kernel), List.mem_of_getElem? (i := 718) (by decide +kernel)⟩
theorem lw_p18 : lw_okq (⟨"UnsaidHorseModel", "isEnough", "(II)Z"⟩, 35) := ⟨⟨by decide +kernel, by decide +kernel⟩, List.mem_of_getElem? (i := 548) (by decide +kernel), List.mem_of_getElem? (i := 721) (by decide +kernel), List.mem_of_getElem? (i := 722) (by decide +kernel)⟩
theorem lw_p19 : lw_okq (⟨"UnsaidHorseModel", "isSign", "(I)Z"⟩, 35) := ⟨⟨by decide +kernel, by decide +kernel⟩, List.mem_of_getElem? (i := 548) (by decide +kernel), List.mem_of_getElem? (i := 733) (by decide +kernel), List.mem_of_getElem? (i := 734) (by decide +kernel)⟩
theorem lw_p20 : lw_okq (⟨"UnsaidHorseModel", "canTell", "(III)Z"⟩, 35) := ⟨⟨by decide +kernel, by decide +kernel⟩, List.mem_of_getElem? (i := 548) (by decide +kernel), List.mem_of_getElem? (i := 745) (by decide +kernel), List.mem_of_getElem? (i := 746) (by decide +kernel)⟩
theorem lw_p21 : lw_okq (⟨"UnsaidHorseModel", "say", "(III)I"⟩, 35) := ⟨⟨by decide +kernel, by decide +kernel⟩, List.mem_of_getElem? (i := 548) (by decide +kernel), List.mem_of_getElem? (i := 749) (by decide +kernel), List.mem_of_getElem? (i := 750) (by decide +kernel)⟩
theorem lw_p22 : lw_okq (⟨"UnsaidHorseModel", "isHanging", "(III)Z"⟩, 35) := ⟨⟨by decide +kernel, by decide +kernel⟩, List.mem_of_getElem? (i := 548) (by decide +kernel), List.mem_of_getElem? (i := 753) (by decide +kernel), List.mem_of_getElem? (i := 754) (by decide +kernel)⟩
theorem lw_p23 : lw_okq (⟨"UnsaidHorseModel", "isKing", "(I)Z"⟩, 35) := ⟨⟨by decide +kernel, by decide +kernel⟩, List.mem_of_getElem? (i := 548) (by decide +kernel), List.mem_of_getElem? (i := 757) (by decide +kernel), List.mem_of_getElem? (i := 758) (by decide +kernel)⟩
theorem lw_p24 : lw_okq (⟨"UnsaidHorseModel", "planNow", "(II)I"⟩, 35) := ⟨⟨by decide +kernel, by decide +kernel⟩, List.mem_of_getElem? (i := 548) (by decide +kernel), List.mem_of_getElem? (i := 765) (by decide +kernel), List.mem_of_getElem? (i := 766) (by decide +kernel)⟩
theorem lw_p25 : lw_okq (⟨"UnsaidHorseModel", "save", "()V"⟩, 35) := ⟨⟨by decide +kernel, by decide +kernel⟩, List.mem_of_getElem? (i := 548) (by decide +kernel), List.mem_of_getElem? (i := 769) (by decide +kernel), List.mem_of_getElem? (i := 770) (by decide +kernel)⟩
theorem lw_p26 : lw_okq (⟨"UnsaidHorseModel", "isPlan", "(III)Z"⟩, 35) := ⟨⟨by decide +kernel, by decide +kernel⟩, List.mem_of_getElem? (i := 548) (by decide +kernel), List.mem_of_getElem? (i := 773) (by decide +kernel), List.mem_of_getElem? (i := 774) (by decide +kernel)⟩
theorem lw_p27 : lw_okq (⟨"UnsaidHorseModel", "mayWord", "(I)Z"⟩, 35) := ⟨⟨by decide +kernel, by decide +kernel⟩, List.mem_of_getElem? (i := 548) (by decide +kernel), List.mem_of_getElem? (i := 777) (by decide +kernel), List.mem_of_getElem? (i := 778) (by decide +kernel)⟩
theorem lw_p28 : lw_okq (⟨"UnsaidHorseModel", "load", "()V"⟩, 35) := ⟨⟨by decide +kernel, by decide +kernel⟩, List.mem_of_getElem? (i := 548) (by decide +kernel), List.mem_of_getElem? (i := 781) (by decide +kernel), List.mem_of_getElem? (i := 782) (by decide +kernel)⟩
theorem lw_p29 : lw_okq (⟨"UnsaidHorseModel", "isAnyHanged", "(II)Z"⟩, 35) := ⟨⟨by decide +kernel, by decide +kernel⟩, List.mem_of_getElem? (i := 548) (by decide +kernel), List.mem_of_getElem? (i := 789) (by decide +kernel), List.mem_of_getElem? (i := 790) (by decide +kernel)⟩
theorem lw_p30 : lw_okq (⟨"UnsaidHorseModel", "safeNow", "(II)I"⟩, 35) := ⟨⟨by decide +kernel, by decide +kernel⟩, List.mem_of_getElem? (i := 548) (by decide +kernel), List.mem_of_getElem? (i := 793) (by decide +kernel), List.mem_of_getElem? (i := 794) (by decide +kernel)⟩
theorem lw_p31 : lw_okq (⟨"UnsaidHorseModel", "tellsNow", "(I)I"⟩, 35) := ⟨⟨by decide +kernel, by decide +kernel⟩, List.mem_of_getElem? (i := 548) (by decide +kernel), List.mem_of_getElem? (i := 809) (by decide +kernel), List.mem_of_getElem? (i := 810) (by decide +kernel)⟩
def lw_privs_2 : List (MethodName × Nat) := [(⟨"UnsaidHorseModel", "tellAll", "(I)I"⟩, 35), (⟨"UnsaidHorseModel", "infers", "(I)Z"⟩, 35), (⟨"UnsaidHorseModel", "isEnough", "(II)Z"⟩, 35), (⟨"UnsaidHorseModel", "isSign", "(I)Z"⟩, 35), (⟨"UnsaidHorseModel", "canTell", "(III)Z"⟩, 35), (⟨"UnsaidHorseModel", "say", "(III)I"⟩, 35), (⟨"UnsaidHorseModel", "isHanging", "(III)Z"⟩, 35), (⟨"UnsaidHorseModel", "isKing", "(I)Z"⟩, 35), (⟨"UnsaidHorseModel", "planNow", "(II)I"⟩, 35), (⟨"UnsaidHorseModel", "save", "()V"⟩, 35), (⟨"UnsaidHorseModel", "isPlan", "(III)Z"⟩, 35), (⟨"UnsaidHorseModel", "mayWord", "(I)Z"⟩, 35), (⟨"UnsaidHorseModel", "load", "()V"⟩, 35), (⟨"UnsaidHorseModel", "isAnyHanged", "(II)Z"⟩, 35), (⟨"UnsaidHorseModel", "safeNow", "(II)I"⟩, 35), (⟨"UnsaidHorseModel", "tellsNow", "(I)I"⟩, 35)]
theorem lw_r2 : ∀ q ∈ lw_privs_2, lw_okq q := List.forall_mem_cons.mpr ⟨lw_p16, List.forall_mem_cons.mpr ⟨lw_p17, List.forall_mem_cons.mpr ⟨lw_p18, List.forall_mem_cons.mpr ⟨lw_p19, List.forall_mem_cons.mpr ⟨lw_p20, List.forall_mem_cons.mpr ⟨lw_p21, List.forall_mem_cons.mpr ⟨lw_p22, List.forall_mem_cons.mpr ⟨lw_p23, List.forall_mem_cons.mpr ⟨lw_p24, List.forall_mem_cons.mpr ⟨lw_p25, List.forall_mem_cons.mpr ⟨lw_p26, List.forall_mem_cons.mpr ⟨lw_p27, List.forall_mem_cons.mpr ⟨lw_p28, List.forall_mem_cons.mpr ⟨lw_p29, List.forall_mem_cons.mpr ⟨lw_p30, List.forall_mem_cons.mpr ⟨lw_p31, fun _ h => absurd h List.not_mem_nil⟩⟩⟩⟩⟩⟩⟩⟩⟩⟩⟩⟩⟩⟩⟩⟩
theorem lw_p32 : lw_okq (⟨"UnsaidHorseModel", "isAsked", "()Z"⟩, 35) := ⟨⟨by decide +kernel, by decide +kernel⟩, List.mem_of_getElem? (i := 548) (by decide +kernel), List.mem_of_getElem? (i := 813) (by decide +kernel), List.mem_of_getElem? (i := 814) (by decide +kernel)⟩
theorem lw_p33 : lw_okq (⟨"UnsaidHorseModel", "nextNow", "(I)I"⟩, 35) := ⟨⟨by decide +kernel, by decide +kernel⟩, List.mem_of_getElem? (i := 548) (by decide +kernel), List.mem_of_getElem? (i := 821) (by decide +kernel), List.mem_of_getElem? (i := 822) (by decide +kernel)⟩
theorem lw_p34 : lw_okq (⟨"UnsaidHorseModel", "worstBy", "(IIII)I"⟩, 35) := ⟨⟨by decide +kernel, by decide +kernel⟩, List.mem_of_getElem? (i := 548) (by decide +kernel), List.mem_of_getElem? (i := 826) (by decide +kernel), List.mem_of_getElem? (i := 827) (by decide +kernel)⟩
theorem lw_p35 : lw_okq (⟨"UnsaidHorseModel", "audiencesNow", "(III)I"⟩, 35) := ⟨⟨by decide +kernel, by decide +kernel⟩, List.mem_of_getElem? (i := 548) (by decide +kernel), List.mem_of_getElem? (i := 834) (by decide +kernel), List.mem_of_getElem? (i := 835) (by decide +kernel)⟩
theorem lw_p36 : lw_okq (⟨"UnsaidHorseModel", "draw", "(I)I"⟩, 35) := ⟨⟨by decide +kernel, by decide +kernel⟩, List.mem_of_getElem? (i := 548) (by decide +kernel), List.mem_of_getElem? (i := 838) (by decide +kernel), List.mem_of_getElem? (i := 839) (by decide +kernel)⟩
theorem lw_p37 : lw_okq (⟨"UnsaidHorseModel", "inferring", "()I"⟩, 35) := ⟨⟨by decide +kernel, by decide +kernel⟩, List.mem_of_getElem? (i := 548) (by decide +kernel), List.mem_of_getElem? (i := 849) (by decide +kernel), List.mem_of_getElem? (i := 850) (by decide +kernel)⟩
theorem lw_p38 : lw_okq (⟨"UnsaidHorseModel", "howMany", "(I)I"⟩, 35) := ⟨⟨by decide +kernel, by decide +kernel⟩, List.mem_of_getElem? (i := 548) (by decide +kernel), List.mem_of_getElem? (i := 865) (by decide +kernel), List.mem_of_getElem? (i := 866) (by decide +kernel)⟩
theorem lw_p39 : lw_okq (⟨"UnsaidHorseModel", "mix", "(J)V"⟩, 35) := ⟨⟨by decide +kernel, by decide +kernel⟩, List.mem_of_getElem? (i := 548) (by decide +kernel), List.mem_of_getElem? (i := 874) (by decide +kernel), List.mem_of_getElem? (i := 875) (by decide +kernel)⟩
def lw_privs_3 : List (MethodName × Nat) := [(⟨"UnsaidHorseModel", "isAsked", "()Z"⟩, 35), (⟨"UnsaidHorseModel", "nextNow", "(I)I"⟩, 35), (⟨"UnsaidHorseModel", "worstBy", "(IIII)I"⟩, 35), (⟨"UnsaidHorseModel", "audiencesNow", "(III)I"⟩, 35), (⟨"UnsaidHorseModel", "draw", "(I)I"⟩, 35), (⟨"UnsaidHorseModel", "inferring", "()I"⟩, 35), (⟨"UnsaidHorseModel", "howMany", "(I)I"⟩, 35), (⟨"UnsaidHorseModel", "mix", "(J)V"⟩, 35)]
theorem lw_r3 : ∀ q ∈ lw_privs_3, lw_okq q := List.forall_mem_cons.mpr ⟨lw_p32, List.forall_mem_cons.mpr ⟨lw_p33, List.forall_mem_cons.mpr ⟨lw_p34, List.forall_mem_cons.mpr ⟨lw_p35, List.forall_mem_cons.mpr ⟨lw_p36, List.forall_mem_cons.mpr ⟨lw_p37, List.forall_mem_cons.mpr ⟨lw_p38, List.forall_mem_cons.mpr ⟨lw_p39, fun _ h => absurd h List.not_mem_nil⟩⟩⟩⟩⟩⟩⟩⟩
def lw_privs : List (MethodName × Nat) := lw_privs_1 ++ (lw_privs_2 ++ (lw_privs_3))
def lw_tbl : List Cond := k2_sels lw_privs ++ tables_1
theorem lw_privs_ok : ∀ q ∈ lw_privs, lw_okq q := by
  show ∀ q ∈ lw_privs_1 ++ (lw_privs_2 ++ (lw_privs_3)), lw_okq q
  exact List.forall_mem_append.mpr ⟨lw_r1, List.forall_mem_append.mpr ⟨lw_r2, lw_r3⟩⟩
-- ===== end of PART A; then your names; then what follows =====
end
section
/-! ===== BEGIN words of one list among another's, by their places ===== -/
theorem goodIn_r {big : List Cond} (ws : List Cond) (ps : List Nat) (hp : ws = ps.filterMap (fun i => big[i]?)) (h : ws.all goodWord = true) : GoodIn big ws := by
  intro w hw
  have h1 := List.all_eq_true.mp h w hw
  rw [hp] at hw
  obtain ⟨i, -, hi⟩ := List.mem_filterMap.mp hw
  have hm : w ∈ big := by first | exact List.mem_of_getElem? hi | exact List.getElem?_mem hi
  exact ⟨hm, good_of_word h1⟩
theorem goodIn_app {big a b : List Cond} (ha : GoodIn big a) (hb : GoodIn big b) : GoodIn big (a ++ b) := fun w h => (List.mem_append.mp h).elim (ha w) (hb w)
theorem goodIn_ca {big a b : List Cond} {c : Cond} (ha : GoodIn big (c :: a)) (hb : GoodIn big b) : GoodIn big (c :: (a ++ b)) := fun w h => (List.mem_cons.mp h).elim (fun e => ha w (List.mem_cons.mpr (Or.inl e))) (fun h => (List.mem_append.mp h).elim (fun h => ha w (List.mem_cons.mpr (Or.inr h))) (hb w))
theorem goodIn_sub {big ws : List Cond} (hm : ∀ w ∈ ws, w ∈ big) (h : ws.all goodWord = true) : GoodIn big ws := fun w hw => ⟨hm w hw, good_of_word (List.all_eq_true.mp h w hw)⟩
/-! ===== END ===== -/

/-! ===== BEGIN printed: names, fields, word lists, decode rows ===== -/
def RX0 : String := "UnsaidHorse$Court"
def TX0 : u_T := fun k => match k with
  | 0 => ("UnsaidHorse$Court", "people", "I", false)
  | 1 => ("UnsaidHorse$Court", "kinds", "I", false)
  | 2 => ("UnsaidHorse$Court", "needs", "I", false)
  | 3 => ("UnsaidHorse$Court", "firsts", "I", false)
  | 4 => ("UnsaidHorse$Court", "enoughs", "I", false)
  | 5 => ("UnsaidHorse$Court", "amounts", "I", false)
  | _ => ("UnsaidHorse$Court", "sums", "[I", true)
def tyX0 : Nat → FieldType := fun k => match k with
  | 0 => .int
  | 1 => .int
  | 2 => .int
  | 3 => .int
  | 4 => .int
  | 5 => .int
  | _ => .array .int
abbrev wsX00 : List Cond := u_ws RX0 TX0 7
theorem nmX0 : ∀ a, a < 7 → ∀ b, b < 7 → a ≠ b → (TX0 a).2.1 ≠ (TX0 b).2.1 := by decide +kernel
theorem tyX0_ok : ∀ k, k < 7 → parseFieldDescriptor (TX0 k).2.2.1 = some (tyX0 k) := by decide +kernel
abbrev cX0_init : ByteArray := prog_2_method_1_code
def yX0_init : MethodName := ⟨RX0, "<init>", "()V"⟩
abbrev cX0_read : ByteArray := prog_2_method_2_code
def yX0_read : MethodName := ⟨RX0, "read", "(LUnsaidHorse$Page;)V"⟩
abbrev cX0_readPerson : ByteArray := prog_2_method_3_code
def yX0_readPerson : MethodName := ⟨RX0, "readPerson", "(IIII)V"⟩
abbrev cX0_enoughOf : ByteArray := prog_2_method_4_code
def yX0_enoughOf : MethodName := ⟨RX0, "enoughOf", "(II)I"⟩
abbrev cX0_sumOf : ByteArray := prog_2_method_5_code
def yX0_sumOf : MethodName := ⟨RX0, "sumOf", "(I)I"⟩
abbrev cX0_isPerson : ByteArray := prog_2_method_6_code
def yX0_isPerson : MethodName := ⟨RX0, "isPerson", "(I)Z"⟩
abbrev cX0_isPair : ByteArray := prog_2_method_7_code
def yX0_isPair : MethodName := ⟨RX0, "isPair", "(II)Z"⟩
abbrev cX0_isSign : ByteArray := prog_2_method_8_code
def yX0_isSign : MethodName := ⟨RX0, "isSign", "(I)Z"⟩
abbrev cX0_kindOf : ByteArray := prog_2_method_9_code
def yX0_kindOf : MethodName := ⟨RX0, "kindOf", "(I)I"⟩
abbrev cX0_needOf : ByteArray := prog_2_method_10_code
def yX0_needOf : MethodName := ⟨RX0, "needOf", "(I)I"⟩
abbrev cX0_amountOf : ByteArray := prog_2_method_11_code
def yX0_amountOf : MethodName := ⟨RX0, "amountOf", "(I)I"⟩
abbrev cX0_firstKnownTo : ByteArray := prog_2_method_12_code
def yX0_firstKnownTo : MethodName := ⟨RX0, "firstKnownTo", "(I)I"⟩
abbrev cX0_isA : ByteArray := prog_2_method_13_code
def yX0_isA : MethodName := ⟨RX0, "isA", "(II)Z"⟩
abbrev cX0_together : ByteArray := prog_2_method_14_code
def yX0_together : MethodName := ⟨RX0, "together", "(I)I"⟩
abbrev cX0_infers : ByteArray := prog_2_method_15_code
def yX0_infers : MethodName := ⟨RX0, "infers", "(II)Z"⟩
abbrev cX0_inferringAmounts : ByteArray := prog_2_method_16_code
def yX0_inferringAmounts : MethodName := ⟨RX0, "inferringAmounts", "(III)I"⟩
def RX1 : String := "UnsaidHorse$Four"
def TX1 : u_T := fun k => match k with
  | _ => ("", "", "", false)
def tyX1 : Nat → FieldType := fun k => match k with
  | _ => .int
abbrev wsX10 : List Cond := u_ws RX1 TX1 0
theorem nmX1 : ∀ a, a < 0 → ∀ b, b < 0 → a ≠ b → (TX1 a).2.1 ≠ (TX1 b).2.1 := by decide +kernel
theorem tyX1_ok : ∀ k, k < 0 → parseFieldDescriptor (TX1 k).2.2.1 = some (tyX1 k) := by decide +kernel
abbrev cX1_get : ByteArray := prog_3_method_2_code
def yX1_get : MethodName := ⟨RX1, "get", "(II)I"⟩
abbrev cX1_put : ByteArray := prog_3_method_3_code
def yX1_put : MethodName := ⟨RX1, "put", "(III)I"⟩
def RX2 : String := "UnsaidHorse$Page"
def TX2 : u_T := fun k => match k with
  | 0 => ("UnsaidHorse$Page", "codes", "[I", true)
  | _ => ("UnsaidHorse$Page", "length", "I", false)
def tyX2 : Nat → FieldType := fun k => match k with
  | 0 => .array .int
  | _ => .int
abbrev wsX20 : List Cond := u_ws RX2 TX2 2
theorem nmX2 : ∀ a, a < 2 → ∀ b, b < 2 → a ≠ b → (TX2 a).2.1 ≠ (TX2 b).2.1 := by decide +kernel
theorem tyX2_ok : ∀ k, k < 2 → parseFieldDescriptor (TX2 k).2.2.1 = some (tyX2 k) := by decide +kernel
abbrev cX2_init : ByteArray := prog_4_method_1_code
def yX2_init : MethodName := ⟨RX2, "<init>", "()V"⟩
abbrev cX2_add : ByteArray := prog_4_method_2_code
def yX2_add : MethodName := ⟨RX2, "add", "(I)V"⟩
abbrev cX2_at : ByteArray := prog_4_method_3_code
def yX2_at : MethodName := ⟨RX2, "at", "(I)I"⟩
abbrev cX2_digitAt : ByteArray := prog_4_method_4_code
def yX2_digitAt : MethodName := ⟨RX2, "digitAt", "(I)I"⟩
abbrev cX2_kindAt : ByteArray := prog_4_method_5_code
def yX2_kindAt : MethodName := ⟨RX2, "kindAt", "(I)I"⟩
abbrev cX2_firstFault : ByteArray := prog_4_method_6_code
def yX2_firstFault : MethodName := ⟨RX2, "firstFault", "()I"⟩
abbrev cX2_isCourt : ByteArray := prog_4_method_7_code
def yX2_isCourt : MethodName := ⟨RX2, "isCourt", "()Z"⟩
abbrev cX2_fitsPeople : ByteArray := prog_4_method_8_code
def yX2_fitsPeople : MethodName := ⟨RX2, "fitsPeople", "(I)Z"⟩
abbrev cX2_fitsAmounts : ByteArray := prog_4_method_9_code
def yX2_fitsAmounts : MethodName := ⟨RX2, "fitsAmounts", "(II)Z"⟩
abbrev cX2_isDigit : ByteArray := prog_4_method_10_code
def yX2_isDigit : MethodName := ⟨RX2, "isDigit", "(III)Z"⟩
def RX3 : String := "UnsaidHorse$Scene"
def TX3 : u_T := fun k => match k with
  | 0 => ("UnsaidHorse$Scene", "known", "I", false)
  | 1 => ("UnsaidHorse$Scene", "hanged", "I", false)
  | 2 => ("UnsaidHorse$Scene", "said", "I", false)
  | 3 => ("UnsaidHorse$Scene", "forbidden", "I", false)
  | 4 => ("UnsaidHorse$Scene", "words", "I", false)
  | 5 => ("UnsaidHorse$Scene", "wordsBy", "[I", true)
  | 6 => ("UnsaidHorse$Scene", "asked", "[I", true)
  | _ => ("UnsaidHorse$Scene", "askedCount", "I", false)
def tyX3 : Nat → FieldType := fun k => match k with
  | 0 => .int
  | 1 => .int
  | 2 => .int
  | 3 => .int
  | 4 => .int
  | 5 => .array .int
  | 6 => .array .int
  | _ => .int
abbrev wsX30 : List Cond := u_ws RX3 TX3 8
theorem nmX3 : ∀ a, a < 8 → ∀ b, b < 8 → a ≠ b → (TX3 a).2.1 ≠ (TX3 b).2.1 := by decide +kernel
theorem tyX3_ok : ∀ k, k < 8 → parseFieldDescriptor (TX3 k).2.2.1 = some (tyX3 k) := by decide +kernel
abbrev cX3_init : ByteArray := prog_5_method_1_code
def yX3_init : MethodName := ⟨RX3, "<init>", "()V"⟩
abbrev cX3_open : ByteArray := prog_5_method_2_code
def yX3_open : MethodName := ⟨RX3, "open", "(LUnsaidHorse$Court;)V"⟩
abbrev cX3_copy : ByteArray := prog_5_method_3_code
def yX3_copy : MethodName := ⟨RX3, "copy", "(LUnsaidHorse$Scene;)V"⟩
abbrev cX3_knownTo : ByteArray := prog_5_method_4_code
def yX3_knownTo : MethodName := ⟨RX3, "knownTo", "(I)I"⟩
abbrev cX3_knows : ByteArray := prog_5_method_5_code
def yX3_knows : MethodName := ⟨RX3, "knows", "(II)Z"⟩
abbrev cX3_isHanged : ByteArray := prog_5_method_6_code
def yX3_isHanged : MethodName := ⟨RX3, "isHanged", "(I)Z"⟩
abbrev cX3_hasSaid : ByteArray := prog_5_method_7_code
def yX3_hasSaid : MethodName := ⟨RX3, "hasSaid", "(I)Z"⟩
abbrev cX3_isForbidden : ByteArray := prog_5_method_8_code
def yX3_isForbidden : MethodName := ⟨RX3, "isForbidden", "(I)Z"⟩
abbrev cX3_setForbidden : ByteArray := prog_5_method_9_code
def yX3_setForbidden : MethodName := ⟨RX3, "setForbidden", "(IZ)V"⟩
abbrev cX3_wordsOf : ByteArray := prog_5_method_10_code
def yX3_wordsOf : MethodName := ⟨RX3, "wordsOf", "(I)I"⟩
abbrev cX3_howManyInfer : ByteArray := prog_5_method_11_code
def yX3_howManyInfer : MethodName := ⟨RX3, "howManyInfer", "(LUnsaidHorse$Court;)I"⟩
abbrev cX3_learn : ByteArray := prog_5_method_12_code
def yX3_learn : MethodName := ⟨RX3, "learn", "(II)V"⟩
abbrev cX3_canTell : ByteArray := prog_5_method_13_code
def yX3_canTell : MethodName := ⟨RX3, "canTell", "(III)Z"⟩
abbrev cX3_makesInfer : ByteArray := prog_5_method_14_code
def yX3_makesInfer : MethodName := ⟨RX3, "makesInfer", "(LUnsaidHorse$Court;II)Z"⟩
abbrev cX3_hangsTeller : ByteArray := prog_5_method_15_code
def yX3_hangsTeller : MethodName := ⟨RX3, "hangsTeller", "(LUnsaidHorse$Court;III)Z"⟩
abbrev cX3_unpunished : ByteArray := prog_5_method_16_code
def yX3_unpunished : MethodName := ⟨RX3, "unpunished", "(LUnsaidHorse$Court;II)I"⟩
abbrev cX3_pass : ByteArray := prog_5_method_17_code
def yX3_pass : MethodName := ⟨RX3, "pass", "(LUnsaidHorse$Court;III)I"⟩
abbrev cX3_addAsked : ByteArray := prog_5_method_18_code
def yX3_addAsked : MethodName := ⟨RX3, "addAsked", "(IIZ)V"⟩
abbrev cX3_askedAt : ByteArray := prog_5_method_19_code
def yX3_askedAt : MethodName := ⟨RX3, "askedAt", "(I)I"⟩
abbrev cX3_possibleAmounts : ByteArray := prog_5_method_20_code
def yX3_possibleAmounts : MethodName := ⟨RX3, "possibleAmounts", "(LUnsaidHorse$Court;I)I"⟩
def RX4 : String := "UnsaidHorse"
def TX4 : u_T := fun k => match k with
  | 0 => ("UnsaidHorse", "thePage", "LUnsaidHorse$Page;", true)
  | 1 => ("UnsaidHorse", "theCourt", "LUnsaidHorse$Court;", true)
  | 2 => ("UnsaidHorse", "now", "LUnsaidHorse$Scene;", true)
  | 3 => ("UnsaidHorse", "kept", "LUnsaidHorse$Scene;", true)
  | 4 => ("UnsaidHorse", "trial", "LUnsaidHorse$Scene;", true)
  | 5 => ("UnsaidHorse", "planWords", "[I", true)
  | 6 => ("UnsaidHorse", "isKept", "Z", false)
  | 7 => ("UnsaidHorse", "courtsRead", "I", false)
  | _ => ("UnsaidHorse", "plansDone", "I", false)
def tyX4 : Nat → FieldType := fun k => match k with
  | 0 => .object "UnsaidHorse$Page"
  | 1 => .object "UnsaidHorse$Court"
  | 2 => .object "UnsaidHorse$Scene"
  | 3 => .object "UnsaidHorse$Scene"
  | 4 => .object "UnsaidHorse$Scene"
  | 5 => .array .int
  | 6 => .boolean
  | 7 => .int
  | _ => .int
abbrev wsX40 : List Cond := u_ws RX4 TX4 9
theorem nmX4 : ∀ a, a < 9 → ∀ b, b < 9 → a ≠ b → (TX4 a).2.1 ≠ (TX4 b).2.1 := by decide +kernel
theorem tyX4_ok : ∀ k, k < 9 → parseFieldDescriptor (TX4 k).2.2.1 = some (tyX4 k) := by decide +kernel
abbrev cX4_init : ByteArray := prog_1_method_1_code
def yX4_init : MethodName := ⟨RX4, "<init>", "()V"⟩
abbrev cX4_letter : ByteArray := prog_1_method_2_code
def yX4_letter : MethodName := ⟨RX4, "letter", "(I)I"⟩
abbrev cX4_blank : ByteArray := prog_1_method_3_code
def yX4_blank : MethodName := ⟨RX4, "blank", "()I"⟩
abbrev cX4_fault : ByteArray := prog_1_method_4_code
def yX4_fault : MethodName := ⟨RX4, "fault", "()I"⟩
abbrev cX4_court : ByteArray := prog_1_method_5_code
def yX4_court : MethodName := ⟨RX4, "court", "()I"⟩
abbrev cX4_about : ByteArray := prog_1_method_6_code
def yX4_about : MethodName := ⟨RX4, "about", "(II)I"⟩
abbrev cX4_as : ByteArray := prog_1_method_7_code
def yX4_as : MethodName := ⟨RX4, "as", "(II)I"⟩
abbrev cX4_sign : ByteArray := prog_1_method_8_code
def yX4_sign : MethodName := ⟨RX4, "sign", "(I)I"⟩
abbrev cX4_forbid : ByteArray := prog_1_method_9_code
def yX4_forbid : MethodName := ⟨RX4, "forbid", "(IZ)I"⟩
abbrev cX4_tell : ByteArray := prog_1_method_10_code
def yX4_tell : MethodName := ⟨RX4, "tell", "(III)I"⟩
abbrev cX4_plan : ByteArray := prog_1_method_11_code
def yX4_plan : MethodName := ⟨RX4, "plan", "(II)I"⟩
abbrev cX4_safe : ByteArray := prog_1_method_12_code
def yX4_safe : MethodName := ⟨RX4, "safe", "(II)I"⟩
abbrev cX4_ask : ByteArray := prog_1_method_13_code
def yX4_ask : MethodName := ⟨RX4, "ask", "(IIZ)I"⟩
abbrev cX4_forget : ByteArray := prog_1_method_14_code
def yX4_forget : MethodName := ⟨RX4, "forget", "()I"⟩
abbrev cX4_tells : ByteArray := prog_1_method_15_code
def yX4_tells : MethodName := ⟨RX4, "tells", "(I)I"⟩
abbrev cX4_next : ByteArray := prog_1_method_16_code
def yX4_next : MethodName := ⟨RX4, "next", "(I)I"⟩
abbrev cX4_audiences : ByteArray := prog_1_method_17_code
def yX4_audiences : MethodName := ⟨RX4, "audiences", "(III)I"⟩
abbrev cX4_image : ByteArray := prog_1_method_18_code
def yX4_image : MethodName := ⟨RX4, "image", "()I"⟩
abbrev cX4_restore : ByteArray := prog_1_method_19_code
def yX4_restore : MethodName := ⟨RX4, "restore", "()I"⟩
abbrev cX4_count : ByteArray := prog_1_method_20_code
def yX4_count : MethodName := ⟨RX4, "count", "(I)I"⟩
abbrev cX4_digest : ByteArray := prog_1_method_21_code
def yX4_digest : MethodName := ⟨RX4, "digest", "()J"⟩
abbrev cX4_digestPerson : ByteArray := prog_1_method_22_code
def yX4_digestPerson : MethodName := ⟨RX4, "digestPerson", "(JI)J"⟩
abbrev cX4_digestSign : ByteArray := prog_1_method_23_code
def yX4_digestSign : MethodName := ⟨RX4, "digestSign", "(JI)J"⟩
abbrev cX4_fewestWords : ByteArray := prog_1_method_24_code
def yX4_fewestWords : MethodName := ⟨RX4, "fewestWords", "(I)I"⟩
abbrev cX4_findsWords : ByteArray := prog_1_method_25_code
def yX4_findsWords : MethodName := ⟨RX4, "findsWords", "(LUnsaidHorse$Court;LUnsaidHorse$Scene;[IIII)Z"⟩
abbrev cX4_bestQuestion : ByteArray := prog_1_method_26_code
def yX4_bestQuestion : MethodName := ⟨RX4, "bestQuestion", "(II)I"⟩
abbrev cX4_holdAudiences : ByteArray := prog_1_method_27_code
def yX4_holdAudiences : MethodName := ⟨RX4, "holdAudiences", "(II)I"⟩
abbrev cX4_nextSeed : ByteArray := prog_1_method_28_code
def yX4_nextSeed : MethodName := ⟨RX4, "nextSeed", "(I)I"⟩
abbrev cX4_drawn : ByteArray := prog_1_method_29_code
def yX4_drawn : MethodName := ⟨RX4, "drawn", "(II)I"⟩
def RX5 : String := "UnsaidHorseModel"
def TX5 : u_T := fun k => match k with
  | 0 => ("UnsaidHorseModel", "courts", "I", false)
  | 1 => ("UnsaidHorseModel", "people", "I", false)
  | 2 => ("UnsaidHorseModel", "kindOf", "[I", true)
  | 3 => ("UnsaidHorseModel", "needOf", "[I", true)
  | 4 => ("UnsaidHorseModel", "knows", "[I", true)
  | 5 => ("UnsaidHorseModel", "toldBy", "[I", true)
  | 6 => ("UnsaidHorseModel", "tellsOf", "[I", true)
  | 7 => ("UnsaidHorseModel", "forbidden", "I", false)
  | 8 => ("UnsaidHorseModel", "hanged", "I", false)
  | 9 => ("UnsaidHorseModel", "said", "I", false)
  | 10 => ("UnsaidHorseModel", "words", "I", false)
  | 11 => ("UnsaidHorseModel", "asked", "I", false)
  | 12 => ("UnsaidHorseModel", "askedWho", "[I", true)
  | 13 => ("UnsaidHorseModel", "askedSigns", "[I", true)
  | 14 => ("UnsaidHorseModel", "askedSo", "[I", true)
  | 15 => ("UnsaidHorseModel", "asks", "I", false)
  | 16 => ("UnsaidHorseModel", "pageLength", "I", false)
  | 17 => ("UnsaidHorseModel", "page", "[B", true)
  | 18 => ("UnsaidHorseModel", "isWhole", "Z", false)
  | 19 => ("UnsaidHorseModel", "newMany", "I", false)
  | 20 => ("UnsaidHorseModel", "savedKnows", "[I", true)
  | 21 => ("UnsaidHorseModel", "seedNow", "J", false)
  | 22 => ("UnsaidHorseModel", "isKept", "Z", false)
  | 23 => ("UnsaidHorseModel", "keptCourt", "I", false)
  | 24 => ("UnsaidHorseModel", "keptForbidden", "I", false)
  | 25 => ("UnsaidHorseModel", "keptHanged", "I", false)
  | 26 => ("UnsaidHorseModel", "keptSaid", "I", false)
  | 27 => ("UnsaidHorseModel", "keptWords", "I", false)
  | 28 => ("UnsaidHorseModel", "keptAsked", "I", false)
  | 29 => ("UnsaidHorseModel", "keptKnows", "[I", true)
  | 30 => ("UnsaidHorseModel", "keptTold", "[I", true)
  | 31 => ("UnsaidHorseModel", "keptWho", "[I", true)
  | 32 => ("UnsaidHorseModel", "keptSigns", "[I", true)
  | 33 => ("UnsaidHorseModel", "keptSo", "[I", true)
  | _ => ("UnsaidHorseModel", "h", "J", false)
def tyX5 : Nat → FieldType := fun k => match k with
  | 0 => .int
  | 1 => .int
  | 2 => .array .int
  | 3 => .array .int
  | 4 => .array .int
  | 5 => .array .int
  | 6 => .array .int
  | 7 => .int
  | 8 => .int
  | 9 => .int
  | 10 => .int
  | 11 => .int
  | 12 => .array .int
  | 13 => .array .int
  | 14 => .array .int
  | 15 => .int
  | 16 => .int
  | 17 => .array .byte
  | 18 => .boolean
  | 19 => .int
  | 20 => .array .int
  | 21 => .long
  | 22 => .boolean
  | 23 => .int
  | 24 => .int
  | 25 => .int
  | 26 => .int
  | 27 => .int
  | 28 => .int
  | 29 => .array .int
  | 30 => .array .int
  | 31 => .array .int
  | 32 => .array .int
  | 33 => .array .int
  | _ => .long
abbrev wsX50 : List Cond := u_ws RX5 TX5 35
theorem nmX5 : ∀ a, a < 35 → ∀ b, b < 35 → a ≠ b → (TX5 a).2.1 ≠ (TX5 b).2.1 := by decide +kernel
theorem tyX5_ok : ∀ k, k < 35 → parseFieldDescriptor (TX5 k).2.2.1 = some (tyX5 k) := by decide +kernel
abbrev cX5_init : ByteArray := prog_7_method_1_code
def yX5_init : MethodName := ⟨RX5, "<init>", "()V"⟩
abbrev cX5_within : ByteArray := prog_7_method_3_code
def yX5_within : MethodName := ⟨RX5, "within", "(III)Z"⟩
abbrev cX5_isIn : ByteArray := prog_7_method_4_code
def yX5_isIn : MethodName := ⟨RX5, "isIn", "(II)Z"⟩
abbrev cX5_size : ByteArray := prog_7_method_5_code
def yX5_size : MethodName := ⟨RX5, "size", "(I)I"⟩
abbrev cX5_letter : ByteArray := prog_7_method_6_code
def yX5_letter : MethodName := ⟨RX5, "letter", "(I)I"⟩
abbrev cX5_blank : ByteArray := prog_7_method_7_code
def yX5_blank : MethodName := ⟨RX5, "blank", "()I"⟩
abbrev cX5_kindBy : ByteArray := prog_7_method_8_code
def yX5_kindBy : MethodName := ⟨RX5, "kindBy", "(I)I"⟩
abbrev cX5_isFigure : ByteArray := prog_7_method_9_code
def yX5_isFigure : MethodName := ⟨RX5, "isFigure", "(III)Z"⟩
abbrev cX5_readOne : ByteArray := prog_7_method_10_code
def yX5_readOne : MethodName := ⟨RX5, "readOne", "(I)I"⟩
abbrev cX5_readSigns : ByteArray := prog_7_method_11_code
def yX5_readSigns : MethodName := ⟨RX5, "readSigns", "(I)I"⟩
abbrev cX5_read : ByteArray := prog_7_method_12_code
def yX5_read : MethodName := ⟨RX5, "read", "()I"⟩
abbrev cX5_fault : ByteArray := prog_7_method_13_code
def yX5_fault : MethodName := ⟨RX5, "fault", "()I"⟩
abbrev cX5_court : ByteArray := prog_7_method_14_code
def yX5_court : MethodName := ⟨RX5, "court", "()I"⟩
abbrev cX5_isOne : ByteArray := prog_7_method_15_code
def yX5_isOne : MethodName := ⟨RX5, "isOne", "(I)Z"⟩
abbrev cX5_isSign : ByteArray := prog_7_method_16_code
def yX5_isSign : MethodName := ⟨RX5, "isSign", "(I)Z"⟩
abbrev cX5_isKing : ByteArray := prog_7_method_17_code
def yX5_isKing : MethodName := ⟨RX5, "isKing", "(I)Z"⟩
abbrev cX5_tellAll : ByteArray := prog_7_method_18_code
def yX5_tellAll : MethodName := ⟨RX5, "tellAll", "(I)I"⟩
abbrev cX5_isEnough : ByteArray := prog_7_method_19_code
def yX5_isEnough : MethodName := ⟨RX5, "isEnough", "(II)Z"⟩
abbrev cX5_infers : ByteArray := prog_7_method_20_code
def yX5_infers : MethodName := ⟨RX5, "infers", "(I)Z"⟩
abbrev cX5_oneNow : ByteArray := prog_7_method_21_code
def yX5_oneNow : MethodName := ⟨RX5, "oneNow", "(II)I"⟩
abbrev cX5_about : ByteArray := prog_7_method_22_code
def yX5_about : MethodName := ⟨RX5, "about", "(II)I"⟩
abbrev cX5_as : ByteArray := prog_7_method_23_code
def yX5_as : MethodName := ⟨RX5, "as", "(II)I"⟩
abbrev cX5_sign : ByteArray := prog_7_method_24_code
def yX5_sign : MethodName := ⟨RX5, "sign", "(I)I"⟩
abbrev cX5_forbid : ByteArray := prog_7_method_25_code
def yX5_forbid : MethodName := ⟨RX5, "forbid", "(IZ)I"⟩
abbrev cX5_canTell : ByteArray := prog_7_method_26_code
def yX5_canTell : MethodName := ⟨RX5, "canTell", "(III)Z"⟩
abbrev cX5_isHanging : ByteArray := prog_7_method_27_code
def yX5_isHanging : MethodName := ⟨RX5, "isHanging", "(III)Z"⟩
abbrev cX5_say : ByteArray := prog_7_method_28_code
def yX5_say : MethodName := ⟨RX5, "say", "(III)I"⟩
abbrev cX5_tell : ByteArray := prog_7_method_29_code
def yX5_tell : MethodName := ⟨RX5, "tell", "(III)I"⟩
abbrev cX5_save : ByteArray := prog_7_method_30_code
def yX5_save : MethodName := ⟨RX5, "save", "()V"⟩
abbrev cX5_load : ByteArray := prog_7_method_31_code
def yX5_load : MethodName := ⟨RX5, "load", "()V"⟩
abbrev cX5_mayWord : ByteArray := prog_7_method_32_code
def yX5_mayWord : MethodName := ⟨RX5, "mayWord", "(I)Z"⟩
abbrev cX5_isPlan : ByteArray := prog_7_method_33_code
def yX5_isPlan : MethodName := ⟨RX5, "isPlan", "(III)Z"⟩
abbrev cX5_planNow : ByteArray := prog_7_method_34_code
def yX5_planNow : MethodName := ⟨RX5, "planNow", "(II)I"⟩
abbrev cX5_plan : ByteArray := prog_7_method_35_code
def yX5_plan : MethodName := ⟨RX5, "plan", "(II)I"⟩
abbrev cX5_safeNow : ByteArray := prog_7_method_36_code
def yX5_safeNow : MethodName := ⟨RX5, "safeNow", "(II)I"⟩
abbrev cX5_isAnyHanged : ByteArray := prog_7_method_37_code
def yX5_isAnyHanged : MethodName := ⟨RX5, "isAnyHanged", "(II)Z"⟩
abbrev cX5_safe : ByteArray := prog_7_method_38_code
def yX5_safe : MethodName := ⟨RX5, "safe", "(II)I"⟩
abbrev cX5_ask : ByteArray := prog_7_method_39_code
def yX5_ask : MethodName := ⟨RX5, "ask", "(IIZ)I"⟩
abbrev cX5_forget : ByteArray := prog_7_method_40_code
def yX5_forget : MethodName := ⟨RX5, "forget", "()I"⟩
abbrev cX5_isAsked : ByteArray := prog_7_method_41_code
def yX5_isAsked : MethodName := ⟨RX5, "isAsked", "()Z"⟩
abbrev cX5_tellsNow : ByteArray := prog_7_method_42_code
def yX5_tellsNow : MethodName := ⟨RX5, "tellsNow", "(I)I"⟩
abbrev cX5_tells : ByteArray := prog_7_method_43_code
def yX5_tells : MethodName := ⟨RX5, "tells", "(I)I"⟩
abbrev cX5_worstBy : ByteArray := prog_7_method_44_code
def yX5_worstBy : MethodName := ⟨RX5, "worstBy", "(IIII)I"⟩
abbrev cX5_nextNow : ByteArray := prog_7_method_45_code
def yX5_nextNow : MethodName := ⟨RX5, "nextNow", "(I)I"⟩
abbrev cX5_next : ByteArray := prog_7_method_46_code
def yX5_next : MethodName := ⟨RX5, "next", "(I)I"⟩
abbrev cX5_draw : ByteArray := prog_7_method_47_code
def yX5_draw : MethodName := ⟨RX5, "draw", "(I)I"⟩
abbrev cX5_inferring : ByteArray := prog_7_method_48_code
def yX5_inferring : MethodName := ⟨RX5, "inferring", "()I"⟩
abbrev cX5_audiencesNow : ByteArray := prog_7_method_49_code
def yX5_audiencesNow : MethodName := ⟨RX5, "audiencesNow", "(III)I"⟩
abbrev cX5_audiences : ByteArray := prog_7_method_50_code
def yX5_audiences : MethodName := ⟨RX5, "audiences", "(III)I"⟩
abbrev cX5_image : ByteArray := prog_7_method_51_code
def yX5_image : MethodName := ⟨RX5, "image", "()I"⟩
abbrev cX5_restore : ByteArray := prog_7_method_52_code
def yX5_restore : MethodName := ⟨RX5, "restore", "()I"⟩
abbrev cX5_howMany : ByteArray := prog_7_method_53_code
def yX5_howMany : MethodName := ⟨RX5, "howMany", "(I)I"⟩
abbrev cX5_count : ByteArray := prog_7_method_54_code
def yX5_count : MethodName := ⟨RX5, "count", "(I)I"⟩
abbrev cX5_mix : ByteArray := prog_7_method_55_code
def yX5_mix : MethodName := ⟨RX5, "mix", "(J)V"⟩
abbrev cX5_digest : ByteArray := prog_7_method_56_code
def yX5_digest : MethodName := ⟨RX5, "digest", "()J"⟩
def RJ11 : String := "java/lang/Character"
def TJ11 : u_T := fun k => match k with
  | _ => ("", "", "", false)
def tyJ11 : Nat → FieldType := fun k => match k with
  | _ => .int
abbrev wsJ110 : List Cond := u_ws RJ11 TJ11 0
theorem nmJ11 : ∀ a, a < 0 → ∀ b, b < 0 → a ≠ b → (TJ11 a).2.1 ≠ (TJ11 b).2.1 := by decide +kernel
theorem tyJ11_ok : ∀ k, k < 0 → parseFieldDescriptor (TJ11 k).2.2.1 = some (tyJ11 k) := by decide +kernel
abbrev cJ11_isValidCodePoint_9a6ad : ByteArray := prog_8_method_11_code
def yJ11_isValidCodePoint_9a6ad : MethodName := ⟨RJ11, "isValidCodePoint", "(I)Z"⟩
abbrev cJ11_highSurrogate_5068e : ByteArray := prog_8_method_28_code
def yJ11_highSurrogate_5068e : MethodName := ⟨RJ11, "highSurrogate", "(I)C"⟩
abbrev cJ11_lowSurrogate_5068e : ByteArray := prog_8_method_29_code
def yJ11_lowSurrogate_5068e : MethodName := ⟨RJ11, "lowSurrogate", "(I)C"⟩
def RJ6 : String := "java/lang/Integer"
def TJ6 : u_T := fun k => match k with
  | _ => ("", "", "", false)
def tyJ6 : Nat → FieldType := fun k => match k with
  | _ => .int
abbrev wsJ60 : List Cond := u_ws RJ6 TJ6 0
theorem nmJ6 : ∀ a, a < 0 → ∀ b, b < 0 → a ≠ b → (TJ6 a).2.1 ≠ (TJ6 b).2.1 := by decide +kernel
theorem tyJ6_ok : ∀ k, k < 0 → parseFieldDescriptor (TJ6 k).2.2.1 = some (tyJ6 k) := by decide +kernel
abbrev cJ6_bitCount_0f7a4 : ByteArray := prog_9_method_49_code
def yJ6_bitCount_0f7a4 : MethodName := ⟨RJ6, "bitCount", "(I)I"⟩
def RJ9 : String := "java/lang/Math"
def TJ9 : u_T := fun k => match k with
  | _ => ("", "", "", false)
def tyJ9 : Nat → FieldType := fun k => match k with
  | _ => .int
abbrev wsJ90 : List Cond := u_ws RJ9 TJ9 0
theorem nmJ9 : ∀ a, a < 0 → ∀ b, b < 0 → a ≠ b → (TJ9 a).2.1 ≠ (TJ9 b).2.1 := by decide +kernel
theorem tyJ9_ok : ∀ k, k < 0 → parseFieldDescriptor (TJ9 k).2.2.1 = some (tyJ9 k) := by decide +kernel
abbrev cJ9_max_7cf53 : ByteArray := prog_10_method_65_code
def yJ9_max_7cf53 : MethodName := ⟨RJ9, "max", "(II)I"⟩
abbrev cJ9_min_7cf53 : ByteArray := prog_10_method_69_code
def yJ9_min_7cf53 : MethodName := ⟨RJ9, "min", "(II)I"⟩
def RJ0 : String := "java/lang/String"
def TJ0 : u_T := fun k => match k with
  | _ => ("", "", "", false)
def tyJ0 : Nat → FieldType := fun k => match k with
  | _ => .int
abbrev wsJ00 : List Cond := u_ws RJ0 TJ0 0
theorem nmJ0 : ∀ a, a < 0 → ∀ b, b < 0 → a ≠ b → (TJ0 a).2.1 ≠ (TJ0 b).2.1 := by decide +kernel
theorem tyJ0_ok : ∀ k, k < 0 → parseFieldDescriptor (TJ0 k).2.2.1 = some (tyJ0 k) := by decide +kernel
abbrev cJ0_length_8abf5 : ByteArray := prog_11_method_54_code
def yJ0_length_8abf5 : MethodName := ⟨RJ0, "length", "()I"⟩
abbrev cJ0_indexOf_0f7a4 : ByteArray := prog_11_method_79_code
def yJ0_indexOf_0f7a4 : MethodName := ⟨RJ0, "indexOf", "(I)I"⟩
abbrev cJ0_indexOf_7cf53 : ByteArray := prog_11_method_80_code
def yJ0_indexOf_7cf53 : MethodName := ⟨RJ0, "indexOf", "(II)I"⟩
abbrev cJ0_coder_7d493 : ByteArray := prog_11_method_152_code
def yJ0_coder_7d493 : MethodName := ⟨RJ0, "coder", "()B"⟩
abbrev cJ0_isLatin1_aae02 : ByteArray := prog_11_method_154_code
def yJ0_isLatin1_aae02 : MethodName := ⟨RJ0, "isLatin1", "()Z"⟩
abbrev cJ0_checkBoundsBeginEnd_23922 : ByteArray := prog_11_method_158_code
def yJ0_checkBoundsBeginEnd_23922 : MethodName := ⟨RJ0, "checkBoundsBeginEnd", "(III)V"⟩
def RJ1 : String := "java/lang/StringLatin1"
def TJ1 : u_T := fun k => match k with
  | _ => ("", "", "", false)
def tyJ1 : Nat → FieldType := fun k => match k with
  | _ => .int
abbrev wsJ10 : List Cond := u_ws RJ1 TJ1 0
theorem nmJ1 : ∀ a, a < 0 → ∀ b, b < 0 → a ≠ b → (TJ1 a).2.1 ≠ (TJ1 b).2.1 := by decide +kernel
theorem tyJ1_ok : ∀ k, k < 0 → parseFieldDescriptor (TJ1 k).2.2.1 = some (tyJ1 k) := by decide +kernel
abbrev cJ1_canEncode_9a6ad : ByteArray := prog_12_method_4_code
def yJ1_canEncode_9a6ad : MethodName := ⟨RJ1, "canEncode", "(I)Z"⟩
abbrev cJ1_indexOf_4cfef : ByteArray := prog_12_method_22_code
def yJ1_indexOf_4cfef : MethodName := ⟨RJ1, "indexOf", "([BIII)I"⟩
abbrev cJ1_indexOfChar_4cfef : ByteArray := prog_12_method_23_code
def yJ1_indexOfChar_4cfef : MethodName := ⟨RJ1, "indexOfChar", "([BIII)I"⟩
def RJ2 : String := "java/lang/StringUTF16"
def TJ2 : u_T := fun k => match k with
  | _ => ("", "", "", false)
def tyJ2 : Nat → FieldType := fun k => match k with
  | _ => .int
abbrev wsJ20 : List Cond := u_ws RJ2 TJ2 0
theorem nmJ2 : ∀ a, a < 0 → ∀ b, b < 0 → a ≠ b → (TJ2 a).2.1 ≠ (TJ2 b).2.1 := by decide +kernel
theorem tyJ2_ok : ∀ k, k < 0 → parseFieldDescriptor (TJ2 k).2.2.1 = some (tyJ2 k) := by decide +kernel
abbrev cJ2_getChar_3b067 : ByteArray := prog_13_method_5_code
def yJ2_getChar_3b067 : MethodName := ⟨RJ2, "getChar", "([BI)C"⟩
abbrev cJ2_length_9d52b : ByteArray := prog_13_method_6_code
def yJ2_length_9d52b : MethodName := ⟨RJ2, "length", "([B)I"⟩
abbrev cJ2_indexOf_4cfef : ByteArray := prog_13_method_40_code
def yJ2_indexOf_4cfef : MethodName := ⟨RJ2, "indexOf", "([BIII)I"⟩
abbrev cJ2_indexOfChar_4cfef : ByteArray := prog_13_method_47_code
def yJ2_indexOfChar_4cfef : MethodName := ⟨RJ2, "indexOfChar", "([BIII)I"⟩
abbrev cJ2_indexOfCharUnsafe_4cfef : ByteArray := prog_13_method_48_code
def yJ2_indexOfCharUnsafe_4cfef : MethodName := ⟨RJ2, "indexOfCharUnsafe", "([BIII)I"⟩
abbrev cJ2_indexOfSupplementary_4cfef : ByteArray := prog_13_method_49_code
def yJ2_indexOfSupplementary_4cfef : MethodName := ⟨RJ2, "indexOfSupplementary", "([BIII)I"⟩
abbrev cJ2_checkBoundsBeginEnd_d044e : ByteArray := prog_13_method_93_code
def yJ2_checkBoundsBeginEnd_d044e : MethodName := ⟨RJ2, "checkBoundsBeginEnd", "(II[B)V"⟩
def RJ3 : String := "jdk/internal/util/Preconditions"
def TJ3 : u_T := fun k => match k with
  | _ => ("", "", "", false)
def tyJ3 : Nat → FieldType := fun k => match k with
  | _ => .int
abbrev wsJ30 : List Cond := u_ws RJ3 TJ3 0
theorem nmJ3 : ∀ a, a < 0 → ∀ b, b < 0 → a ≠ b → (TJ3 a).2.1 ≠ (TJ3 b).2.1 := by decide +kernel
theorem tyJ3_ok : ∀ k, k < 0 → parseFieldDescriptor (TJ3 k).2.2.1 = some (tyJ3 k) := by decide +kernel
abbrev cJ3_checkFromToIndex_8c36e : ByteArray := prog_14_method_12_code
def yJ3_checkFromToIndex_8c36e : MethodName := ⟨RJ3, "checkFromToIndex", "(IIILjava/util/function/BiFunction;)I"⟩
def RL : String := "UnsaidHorseLaw"
abbrev cL_law : ByteArray := code
def yL_law : MethodName := ⟨RL, "law", "([I)Z"⟩
abbrev vwCl : List vw_C := [(RX0, TX0, 7), (RX2, TX2, 2), (RX3, TX3, 8), (RX4, TX4, 9), (RX5, TX5, 35)]
end
section
/-! the methods by their numbers, printed by gen.py: rows as decoded (R), and in their plain form (C: targets are places, fields 64 * kind + slot, calls by number) -/
/-- 0: X1 get(II)I -/
def qR0 : List (Nat × Instr × Nat) := [(0, .iload_n 0, 1), (1, .iconst 4, 1), (2, .iload_n 1, 1), (3, .imul, 1), (4, .ishr, 1), (5, .bipush 15, 2), (7, .iand, 1), (8, .ireturn, 1)]
def qC0 : List Instr := [.iload 0, .iconst 4, .iload 1, .imul, .ishr, .iconst 15, .iand, .ireturn]
/-- 1: X1 put(III)I -/
def qR1 : List (Nat × Instr × Nat) := [(0, .iload_n 0, 1), (1, .bipush 15, 2), (3, .iconst 4, 1), (4, .iload_n 1, 1), (5, .imul, 1), (6, .ishl, 1), (7, .iconst (-1), 1), (8, .ixor, 1), (9, .iand, 1), (10, .iload_n 2, 1), (11, .bipush 15, 2), (13, .iand, 1), (14, .iconst 4, 1), (15, .iload_n 1, 1), (16, .imul, 1), (17, .ishl, 1), (18, .ior, 1), (19, .ireturn, 1)]
def qC1 : List Instr := [.iload 0, .iconst 15, .iconst 4, .iload 1, .imul, .ishl, .iconst (-1), .ixor, .iand, .iload 2, .iconst 15, .iand, .iconst 4, .iload 1, .imul, .ishl, .ior, .ireturn]
/-- 2: X2 add(I)V -/
def qR2 : List (Nat × Instr × Nat) := [(0, .aload_n 0, 1), (1, .getfield 15, 3), (4, .ifCond .lt 35, 3), (7, .aload_n 0, 1), (8, .getfield 15, 3), (11, .aload_n 0, 1), (12, .getfield 9, 3), (15, .arraylength, 1), (16, .if_icmp .ge 23, 3), (19, .aload_n 0, 1), (20, .getfield 9, 3), (23, .aload_n 0, 1), (24, .getfield 15, 3), (27, .iload_n 1, 1), (28, .iastore, 1), (29, .aload_n 0, 1), (30, .dup, 1), (31, .getfield 15, 3), (34, .iconst 1, 1), (35, .iadd, 1), (36, .putfield 15, 3), (39, .return_, 1)]
def qC2 : List Instr := [.aload 0, .getfield 65, .ifCond .lt 21, .aload 0, .getfield 65, .aload 0, .getfield 64, .arraylength, .if_icmp .ge 21, .aload 0, .getfield 64, .aload 0, .getfield 65, .iload 1, .iastore, .aload 0, .dup, .getfield 65, .iconst 1, .iadd, .putfield 65, .return_]
/-- 3: X2 at(I)I -/
def qR3 : List (Nat × Instr × Nat) := [(0, .iload_n 1, 1), (1, .ifCond .lt 29, 3), (4, .iload_n 1, 1), (5, .aload_n 0, 1), (6, .getfield 15, 3), (9, .if_icmp .ge 21, 3), (12, .iload_n 1, 1), (13, .aload_n 0, 1), (14, .getfield 9, 3), (17, .arraylength, 1), (18, .if_icmp .ge 12, 3), (21, .aload_n 0, 1), (22, .getfield 9, 3), (25, .iload_n 1, 1), (26, .iaload, 1), (27, .goto 4, 3), (30, .iconst 0, 1), (31, .ireturn, 1)]
def qC3 : List Instr := [.iload 1, .ifCond .lt 16, .iload 1, .aload 0, .getfield 65, .if_icmp .ge 16, .iload 1, .aload 0, .getfield 64, .arraylength, .if_icmp .ge 16, .aload 0, .getfield 64, .iload 1, .iaload, .goto 17, .iconst 0, .ireturn]
/-- 4: X2 digitAt(I)I -/
def qR4 : List (Nat × Instr × Nat) := [(0, .aload_n 0, 1), (1, .iload_n 1, 1), (2, .invokevirtual 19, 3), (5, .bipush 48, 2), (7, .isub, 1), (8, .ireturn, 1)]
def qC4 : List Instr := [.aload 0, .iload 1, .invokevirtual 801, .iconst 48, .isub, .ireturn]
/-- 5: X2 kindAt(I)I -/
def qR5 : List (Nat × Instr × Nat) := [(0, .ldc 23, 2), (2, .aload_n 0, 1), (3, .iload_n 1, 1), (4, .invokevirtual 19, 3), (7, .i2c, 1), (8, .invokevirtual 25, 3), (11, .ireturn, 1)]
def qC5 : List Instr := [.ldc 0, .aload 0, .iload 1, .invokevirtual 801, .i2c, .invokevirtual 34341, .ireturn]
/-- 6: X2 firstFault()I -/
def qR6 : List (Nat × Instr × Nat) := [(0, .iconst (-1), 1), (1, .istore_n 1, 1), (2, .iconst 0, 1), (3, .istore_n 2, 1), (4, .iload_n 2, 1), (5, .aload_n 0, 1), (6, .getfield 15, 3), (9, .if_icmp .ge 47, 3), (12, .iload_n 1, 1), (13, .iconst (-1), 1), (14, .if_icmp .ne 11, 3), (17, .aload_n 0, 1), (18, .iload_n 2, 1), (19, .invokevirtual 30, 3), (22, .goto 9, 3), (25, .aload_n 0, 1), (26, .iload_n 2, 1), (27, .iload_n 1, 1), (28, .invokevirtual 34, 3), (31, .istore_n 3, 1), (32, .iload_n 3, 1), (33, .ifCond .ne 5, 3), (36, .iload_n 2, 1), (37, .ireturn, 1), (38, .aload_n 0, 1), (39, .iload_n 2, 1), (40, .invokevirtual 19, 3), (43, .bipush 59, 2), (45, .if_icmp .ne 5, 3), (48, .iload_n 2, 1), (49, .istore_n 1, 1), (50, .iinc 2 1, 3), (53, .goto (-49), 3), (56, .aload_n 0, 1), (57, .getfield 15, 3), (60, .ireturn, 1)]
def qC6 : List Instr := [.iconst (-1), .istore 1, .iconst 0, .istore 2, .iload 2, .aload 0, .getfield 65, .if_icmp .ge 33, .iload 1, .iconst (-1), .if_icmp .ne 15, .aload 0, .iload 2, .invokevirtual 2081, .goto 19, .aload 0, .iload 2, .iload 1, .invokevirtual 2353, .istore 3, .iload 3, .ifCond .ne 24, .iload 2, .ireturn, .aload 0, .iload 2, .invokevirtual 801, .iconst 59, .if_icmp .ne 31, .iload 2, .istore 1, .iinc 2 1, .goto 4, .aload 0, .getfield 65, .ireturn]
/-- 7: X2 isCourt()Z -/
def qR7 : List (Nat × Instr × Nat) := [(0, .aload_n 0, 1), (1, .aload_n 0, 1), (2, .getfield 15, 3), (5, .iconst 5, 1), (6, .isub, 1), (7, .invokevirtual 19, 3), (10, .bipush 59, 2), (12, .if_icmp .ne 18, 3), (15, .aload_n 0, 1), (16, .invokevirtual 38, 3), (19, .aload_n 0, 1), (20, .getfield 15, 3), (23, .if_icmp .ne 7, 3), (26, .iconst 1, 1), (27, .goto 4, 3), (30, .iconst 0, 1), (31, .ireturn, 1)]
def qC7 : List Instr := [.aload 0, .aload 0, .getfield 65, .iconst 5, .isub, .invokevirtual 801, .iconst 59, .if_icmp .ne 15, .aload 0, .invokevirtual 1553, .aload 0, .getfield 65, .if_icmp .ne 15, .iconst 1, .goto 16, .iconst 0, .ireturn]
/-- 8: X2 fitsPeople(I)Z -/
def qR8 : List (Nat × Instr × Nat) := [(0, .iload_n 1, 1), (1, .iconst 4, 1), (2, .irem, 1), (3, .tableswitch 57 0 2 #[25, 40, 49], 25), (28, .aload_n 0, 1), (29, .iload_n 1, 1), (30, .invokevirtual 42, 3), (33, .iconst (-1), 1), (34, .if_icmp .eq 7, 3), (37, .iconst 1, 1), (38, .goto 4, 3), (41, .iconst 0, 1), (42, .ireturn, 1), (43, .aload_n 0, 1), (44, .iload_n 1, 1), (45, .iconst 1, 1), (46, .bipush 9, 2), (48, .invokevirtual 45, 3), (51, .ireturn, 1), (52, .aload_n 0, 1), (53, .iload_n 1, 1), (54, .iconst 0, 1), (55, .iconst 4, 1), (56, .invokevirtual 45, 3), (59, .ireturn, 1), (60, .aload_n 0, 1), (61, .iload_n 1, 1), (62, .invokevirtual 19, 3), (65, .bipush 44, 2), (67, .if_icmp .ne 9, 3), (70, .iload_n 1, 1), (71, .bipush 15, 2), (73, .if_icmp .lt 19, 3), (76, .aload_n 0, 1), (77, .iload_n 1, 1), (78, .invokevirtual 19, 3), (81, .bipush 59, 2), (83, .if_icmp .ne 13, 3), (86, .iload_n 1, 1), (87, .bipush 7, 2), (89, .if_icmp .lt 7, 3), (92, .iconst 1, 1), (93, .goto 4, 3), (96, .iconst 0, 1), (97, .ireturn, 1)]
def qC8 : List Instr := [.iload 1, .iconst 4, .irem, .lookupswitch 25 #[(0, 4), (1, 13), (2, 19)], .aload 0, .iload 1, .invokevirtual 1313, .iconst (-1), .if_icmp .eq 11, .iconst 1, .goto 12, .iconst 0, .ireturn, .aload 0, .iload 1, .iconst 1, .iconst 9, .invokevirtual 2625, .ireturn, .aload 0, .iload 1, .iconst 0, .iconst 4, .invokevirtual 2625, .ireturn, .aload 0, .iload 1, .invokevirtual 801, .iconst 44, .if_icmp .ne 33, .iload 1, .iconst 15, .if_icmp .lt 41, .aload 0, .iload 1, .invokevirtual 801, .iconst 59, .if_icmp .ne 43, .iload 1, .iconst 7, .if_icmp .lt 43, .iconst 1, .goto 44, .iconst 0, .ireturn]
/-- 9: X2 fitsAmounts(II)Z -/
def qR9 : List (Nat × Instr × Nat) := [(0, .iload_n 1, 1), (1, .iload_n 2, 1), (2, .isub, 1), (3, .iconst 5, 1), (4, .if_icmp .ge 18, 3), (7, .aload_n 0, 1), (8, .iload_n 1, 1), (9, .iconst 1, 1), (10, .bipush 9, 2), (12, .invokevirtual 45, 3), (15, .ifCond .eq 7, 3), (18, .iconst 1, 1), (19, .goto 4, 3), (22, .iconst 0, 1), (23, .ireturn, 1)]
def qC9 : List Instr := [.iload 1, .iload 2, .isub, .iconst 5, .if_icmp .ge 13, .aload 0, .iload 1, .iconst 1, .iconst 9, .invokevirtual 2625, .ifCond .eq 13, .iconst 1, .goto 14, .iconst 0, .ireturn]
/-- 10: X2 isDigit(III)Z -/
def qR10 : List (Nat × Instr × Nat) := [(0, .aload_n 0, 1), (1, .iload_n 1, 1), (2, .invokevirtual 49, 3), (5, .iload_n 2, 1), (6, .if_icmp .lt 16, 3), (9, .aload_n 0, 1), (10, .iload_n 1, 1), (11, .invokevirtual 49, 3), (14, .iload_n 3, 1), (15, .if_icmp .gt 7, 3), (18, .iconst 1, 1), (19, .goto 4, 3), (22, .iconst 0, 1), (23, .ireturn, 1)]
def qC10 : List Instr := [.aload 0, .iload 1, .invokevirtual 1057, .iload 2, .if_icmp .lt 12, .aload 0, .iload 1, .invokevirtual 1057, .iload 3, .if_icmp .gt 12, .iconst 1, .goto 13, .iconst 0, .ireturn]
/-- 11: X0 read(LUnsaidHorse$Page;)V -/
def qR11 : List (Nat × Instr × Nat) := [(0, .aload_n 0, 1), (1, .aload_n 1, 1), (2, .getfield 15, 3), (5, .iconst 5, 1), (6, .isub, 1), (7, .iconst 1, 1), (8, .iadd, 1), (9, .iconst 4, 1), (10, .idiv, 1), (11, .putfield 21, 3), (14, .iconst 0, 1), (15, .istore_n 2, 1), (16, .iload_n 2, 1), (17, .aload_n 0, 1), (18, .getfield 21, 3), (21, .if_icmp .ge 39, 3), (24, .aload_n 0, 1), (25, .iload_n 2, 1), (26, .aload_n 1, 1), (27, .iconst 4, 1), (28, .iload_n 2, 1), (29, .imul, 1), (30, .invokevirtual 24, 3), (33, .aload_n 1, 1), (34, .iconst 4, 1), (35, .iload_n 2, 1), (36, .imul, 1), (37, .iconst 1, 1), (38, .iadd, 1), (39, .invokevirtual 28, 3), (42, .aload_n 1, 1), (43, .iconst 4, 1), (44, .iload_n 2, 1), (45, .imul, 1), (46, .iconst 2, 1), (47, .iadd, 1), (48, .invokevirtual 28, 3), (51, .invokevirtual 31, 3), (54, .iinc 2 1, 3), (57, .goto (-41), 3), (60, .iconst 0, 1), (61, .istore_n 2, 1), (62, .iload_n 2, 1), (63, .iconst 4, 1), (64, .if_icmp .ge 33, 3), (67, .aload_n 0, 1), (68, .aload_n 0, 1), (69, .getfield 35, 3), (72, .iload_n 2, 1), (73, .aload_n 1, 1), (74, .iconst 4, 1), (75, .aload_n 0, 1), (76, .getfield 21, 3), (79, .imul, 1), (80, .iload_n 2, 1), (81, .iadd, 1), (82, .invokevirtual 28, 3), (85, .invokestatic 38, 3), (88, .putfield 35, 3), (91, .iinc 2 1, 3), (94, .goto (-32), 3), (97, .iconst 0, 1), (98, .istore_n 2, 1), (99, .iload_n 2, 1), (100, .aload_n 0, 1), (101, .getfield 9, 3), (104, .arraylength, 1), (105, .if_icmp .ge 20, 3), (108, .aload_n 0, 1), (109, .getfield 9, 3), (112, .iload_n 2, 1), (113, .aload_n 0, 1), (114, .iload_n 2, 1), (115, .invokevirtual 44, 3), (118, .iastore, 1), (119, .iinc 2 1, 3), (122, .goto (-23), 3), (125, .return_, 1)]
def qC11 : List Instr := [.aload 0, .aload 1, .getfield 65, .iconst 5, .isub, .iconst 1, .iadd, .iconst 4, .idiv, .putfield 0, .iconst 0, .istore 2, .iload 2, .aload 0, .getfield 0, .if_icmp .ge 40, .aload 0, .iload 2, .aload 1, .iconst 4, .iload 2, .imul, .invokevirtual 1313, .aload 1, .iconst 4, .iload 2, .imul, .iconst 1, .iadd, .invokevirtual 1057, .aload 1, .iconst 4, .iload 2, .imul, .iconst 2, .iadd, .invokevirtual 1057, .invokevirtual 3152, .iinc 2 1, .goto 12, .iconst 0, .istore 2, .iload 2, .iconst 4, .if_icmp .ge 61, .aload 0, .aload 0, .getfield 5, .iload 2, .aload 1, .iconst 4, .aload 0, .getfield 0, .imul, .iload 2, .iadd, .invokevirtual 1057, .invokestatic 19, .putfield 5, .iinc 2 1, .goto 42, .iconst 0, .istore 2, .iload 2, .aload 0, .getfield 6, .arraylength, .if_icmp .ge 77, .aload 0, .getfield 6, .iload 2, .aload 0, .iload 2, .invokevirtual 3616, .iastore, .iinc 2 1, .goto 63, .return_]
/-- 12: X0 readPerson(IIII)V -/
def qR12 : List (Nat × Instr × Nat) := [(0, .aload_n 0, 1), (1, .aload_n 0, 1), (2, .getfield 47, 3), (5, .iload_n 1, 1), (6, .iload_n 2, 1), (7, .invokestatic 38, 3), (10, .putfield 47, 3), (13, .aload_n 0, 1), (14, .aload_n 0, 1), (15, .getfield 50, 3), (18, .iload_n 1, 1), (19, .iload_n 3, 1), (20, .invokestatic 38, 3), (23, .putfield 50, 3), (26, .aload_n 0, 1), (27, .aload_n 0, 1), (28, .getfield 53, 3), (31, .iload_n 1, 1), (32, .iload 4, 2), (34, .invokestatic 38, 3), (37, .putfield 53, 3), (40, .aload_n 0, 1), (41, .aload_n 0, 1), (42, .getfield 56, 3), (45, .iload_n 1, 1), (46, .iload_n 2, 1), (47, .iload_n 3, 1), (48, .invokestatic 59, 3), (51, .invokestatic 38, 3), (54, .putfield 56, 3), (57, .return_, 1)]
def qC12 : List Instr := [.aload 0, .aload 0, .getfield 1, .iload 1, .iload 2, .invokestatic 19, .putfield 1, .aload 0, .aload 0, .getfield 2, .iload 1, .iload 3, .invokestatic 19, .putfield 2, .aload 0, .aload 0, .getfield 3, .iload 1, .iload 4, .invokestatic 19, .putfield 3, .aload 0, .aload 0, .getfield 4, .iload 1, .iload 2, .iload 3, .invokestatic 210, .invokestatic 19, .putfield 4, .return_]
/-- 13: X0 enoughOf(II)I -/
def qR13 : List (Nat × Instr × Nat) := [(0, .iload_n 0, 1), (1, .lookupswitch 37 #[(2, 27), (4, 33)], 27), (28, .iload_n 1, 1), (29, .iconst 1, 1), (30, .iadd, 1), (31, .iconst 2, 1), (32, .idiv, 1), (33, .ireturn, 1), (34, .iload_n 1, 1), (35, .iconst 2, 1), (36, .iadd, 1), (37, .ireturn, 1), (38, .iload_n 1, 1), (39, .ireturn, 1)]
def qC13 : List Instr := [.iload 0, .lookupswitch 12 #[(2, 2), (4, 8)], .iload 1, .iconst 1, .iadd, .iconst 2, .idiv, .ireturn, .iload 1, .iconst 2, .iadd, .ireturn, .iload 1, .ireturn]
/-- 14: X0 sumOf(I)I -/
def qR14 : List (Nat × Instr × Nat) := [(0, .iconst 0, 1), (1, .istore_n 2, 1), (2, .iconst 0, 1), (3, .istore_n 3, 1), (4, .iload_n 3, 1), (5, .iconst 4, 1), (6, .if_icmp .ge 25, 3), (9, .iload_n 1, 1), (10, .iconst 1, 1), (11, .iload_n 3, 1), (12, .ishl, 1), (13, .iand, 1), (14, .ifCond .eq 11, 3), (17, .iload_n 2, 1), (18, .aload_n 0, 1), (19, .iload_n 3, 1), (20, .invokevirtual 63, 3), (23, .iadd, 1), (24, .istore_n 2, 1), (25, .iinc 3 1, 3), (28, .goto (-24), 3), (31, .iload_n 2, 1), (32, .ireturn, 1)]
def qC14 : List Instr := [.iconst 0, .istore 2, .iconst 0, .istore 3, .iload 3, .iconst 4, .if_icmp .ge 21, .iload 1, .iconst 1, .iload 3, .ishl, .iand, .ifCond .eq 19, .iload 2, .aload 0, .iload 3, .invokevirtual 5152, .iadd, .istore 2, .iinc 3 1, .goto 4, .iload 2, .ireturn]
/-- 15: X0 isPerson(I)Z -/
def qR15 : List (Nat × Instr × Nat) := [(0, .iload_n 1, 1), (1, .ifCond .lt 15, 3), (4, .iload_n 1, 1), (5, .aload_n 0, 1), (6, .getfield 21, 3), (9, .if_icmp .ge 7, 3), (12, .iconst 1, 1), (13, .goto 4, 3), (16, .iconst 0, 1), (17, .ireturn, 1)]
def qC15 : List Instr := [.iload 1, .ifCond .lt 8, .iload 1, .aload 0, .getfield 0, .if_icmp .ge 8, .iconst 1, .goto 9, .iconst 0, .ireturn]
/-- 16: X0 isPair(II)Z -/
def qR16 : List (Nat × Instr × Nat) := [(0, .aload_n 0, 1), (1, .iload_n 1, 1), (2, .invokevirtual 66, 3), (5, .ifCond .eq 20, 3), (8, .aload_n 0, 1), (9, .iload_n 2, 1), (10, .invokevirtual 66, 3), (13, .ifCond .eq 12, 3), (16, .iload_n 1, 1), (17, .iload_n 2, 1), (18, .if_icmp .eq 7, 3), (21, .iconst 1, 1), (22, .goto 4, 3), (25, .iconst 0, 1), (26, .ireturn, 1)]
def qC16 : List Instr := [.aload 0, .iload 1, .invokevirtual 3872, .ifCond .eq 13, .aload 0, .iload 2, .invokevirtual 3872, .ifCond .eq 13, .iload 1, .iload 2, .if_icmp .eq 13, .iconst 1, .goto 14, .iconst 0, .ireturn]
/-- 17: X0 isSign(I)Z -/
def qR17 : List (Nat × Instr × Nat) := [(0, .aload_n 0, 1), (1, .getfield 21, 3), (4, .ifCond .le 16, 3), (7, .iload_n 1, 1), (8, .ifCond .lt 12, 3), (11, .iload_n 1, 1), (12, .iconst 4, 1), (13, .if_icmp .ge 7, 3), (16, .iconst 1, 1), (17, .goto 4, 3), (20, .iconst 0, 1), (21, .ireturn, 1)]
def qC17 : List Instr := [.aload 0, .getfield 0, .ifCond .le 10, .iload 1, .ifCond .lt 10, .iload 1, .iconst 4, .if_icmp .ge 10, .iconst 1, .goto 11, .iconst 0, .ireturn]
/-- 18: X0 kindOf(I)I -/
def qR18 : List (Nat × Instr × Nat) := [(0, .aload_n 0, 1), (1, .getfield 47, 3), (4, .iload_n 1, 1), (5, .invokestatic 70, 3), (8, .ireturn, 1)]
def qC18 : List Instr := [.aload 0, .getfield 1, .iload 1, .invokestatic 2, .ireturn]
/-- 19: X0 needOf(I)I -/
def qR19 : List (Nat × Instr × Nat) := [(0, .aload_n 0, 1), (1, .getfield 50, 3), (4, .iload_n 1, 1), (5, .invokestatic 70, 3), (8, .ireturn, 1)]
def qC19 : List Instr := [.aload 0, .getfield 2, .iload 1, .invokestatic 2, .ireturn]
/-- 20: X0 amountOf(I)I -/
def qR20 : List (Nat × Instr × Nat) := [(0, .aload_n 0, 1), (1, .getfield 35, 3), (4, .iload_n 1, 1), (5, .invokestatic 70, 3), (8, .ireturn, 1)]
def qC20 : List Instr := [.aload 0, .getfield 5, .iload 1, .invokestatic 2, .ireturn]
/-- 21: X0 firstKnownTo(I)I -/
def qR21 : List (Nat × Instr × Nat) := [(0, .iconst 1, 1), (1, .aload_n 0, 1), (2, .getfield 53, 3), (5, .iload_n 1, 1), (6, .invokestatic 70, 3), (9, .ishl, 1), (10, .bipush 15, 2), (12, .iand, 1), (13, .ireturn, 1)]
def qC21 : List Instr := [.iconst 1, .aload 0, .getfield 3, .iload 1, .invokestatic 2, .ishl, .iconst 15, .iand, .ireturn]
/-- 22: X0 isA(II)Z -/
def qR22 : List (Nat × Instr × Nat) := [(0, .aload_n 0, 1), (1, .iload_n 1, 1), (2, .invokevirtual 73, 3), (5, .istore_n 3, 1), (6, .iload_n 2, 1), (7, .ifCond .eq 18, 3), (10, .iload_n 2, 1), (11, .iload_n 3, 1), (12, .if_icmp .eq 13, 3), (15, .iload_n 2, 1), (16, .iconst 1, 1), (17, .if_icmp .ne 12, 3), (20, .iload_n 3, 1), (21, .iconst 4, 1), (22, .if_icmp .ne 7, 3), (25, .iconst 1, 1), (26, .goto 4, 3), (29, .iconst 0, 1), (30, .ireturn, 1)]
def qC22 : List Instr := [.aload 0, .iload 1, .invokevirtual 4640, .istore 3, .iload 2, .ifCond .eq 15, .iload 2, .iload 3, .if_icmp .eq 15, .iload 2, .iconst 1, .if_icmp .ne 17, .iload 3, .iconst 4, .if_icmp .ne 17, .iconst 1, .goto 18, .iconst 0, .ireturn]
/-- 23: X0 together(I)I -/
def qR23 : List (Nat × Instr × Nat) := [(0, .iload_n 1, 1), (1, .ifCond .lt 21, 3), (4, .iload_n 1, 1), (5, .aload_n 0, 1), (6, .getfield 9, 3), (9, .arraylength, 1), (10, .if_icmp .ge 12, 3), (13, .aload_n 0, 1), (14, .getfield 9, 3), (17, .iload_n 1, 1), (18, .iaload, 1), (19, .goto 4, 3), (22, .iconst 0, 1), (23, .ireturn, 1)]
def qC23 : List Instr := [.iload 1, .ifCond .lt 12, .iload 1, .aload 0, .getfield 6, .arraylength, .if_icmp .ge 12, .aload 0, .getfield 6, .iload 1, .iaload, .goto 13, .iconst 0, .ireturn]
/-- 24: X0 infers(II)Z -/
def qR24 : List (Nat × Instr × Nat) := [(0, .aload_n 0, 1), (1, .iload_n 2, 1), (2, .invokevirtual 76, 3), (5, .aload_n 0, 1), (6, .getfield 56, 3), (9, .iload_n 1, 1), (10, .invokestatic 70, 3), (13, .if_icmp .lt 7, 3), (16, .iconst 1, 1), (17, .goto 4, 3), (20, .iconst 0, 1), (21, .ireturn, 1)]
def qC24 : List Instr := [.aload 0, .iload 2, .invokevirtual 5920, .aload 0, .getfield 4, .iload 1, .invokestatic 2, .if_icmp .lt 10, .iconst 1, .goto 11, .iconst 0, .ireturn]
/-- 25: X0 inferringAmounts(III)I -/
def qR25 : List (Nat × Instr × Nat) := [(0, .iload_n 2, 1), (1, .iconst 1, 1), (2, .iload_n 3, 1), (3, .ishl, 1), (4, .iconst (-1), 1), (5, .ixor, 1), (6, .iand, 1), (7, .istore 4, 2), (9, .aload_n 0, 1), (10, .getfield 56, 3), (13, .iload_n 1, 1), (14, .invokestatic 70, 3), (17, .aload_n 0, 1), (18, .iload 4, 2), (20, .invokevirtual 76, 3), (23, .isub, 1), (24, .istore 5, 2), (26, .iload 4, 2), (28, .iload_n 2, 1), (29, .if_icmp .ne 16, 3), (32, .iload 5, 2), (34, .ifCond .gt 9, 3), (37, .sipush 511, 3), (40, .goto 4, 3), (43, .iconst 0, 1), (44, .ireturn, 1), (45, .iconst 0, 1), (46, .bipush 9, 2), (48, .iload 5, 2), (50, .iconst 1, 1), (51, .isub, 1), (52, .invokestatic 79, 3), (55, .invokestatic 84, 3), (58, .istore 6, 2), (60, .sipush 511, 3), (63, .iconst (-1), 1), (64, .iload 6, 2), (66, .ishl, 1), (67, .iand, 1), (68, .ireturn, 1)]
def qC25 : List Instr := [.iload 2, .iconst 1, .iload 3, .ishl, .iconst (-1), .ixor, .iand, .istore 4, .aload 0, .getfield 4, .iload 1, .invokestatic 2, .aload 0, .iload 4, .invokevirtual 5920, .isub, .istore 5, .iload 4, .iload 2, .if_icmp .ne 26, .iload 5, .ifCond .gt 24, .iconst 511, .goto 25, .iconst 0, .ireturn, .iconst 0, .iconst 9, .iload 5, .iconst 1, .isub, .fsub, .fadd, .istore 6, .iconst 511, .iconst (-1), .iload 6, .ishl, .iand, .ireturn]
/-- 26: X3 open(LUnsaidHorse$Court;)V -/
def qR26 : List (Nat × Instr × Nat) := [(0, .aload_n 0, 1), (1, .iconst 0, 1), (2, .putfield 18, 3), (5, .aload_n 0, 1), (6, .iconst 0, 1), (7, .putfield 22, 3), (10, .aload_n 0, 1), (11, .iconst 0, 1), (12, .putfield 25, 3), (15, .aload_n 0, 1), (16, .iconst 0, 1), (17, .putfield 28, 3), (20, .aload_n 0, 1), (21, .iconst 0, 1), (22, .putfield 31, 3), (25, .aload_n 0, 1), (26, .iconst 0, 1), (27, .putfield 34, 3), (30, .iconst 0, 1), (31, .istore_n 2, 1), (32, .iload_n 2, 1), (33, .aload_n 0, 1), (34, .getfield 9, 3), (37, .arraylength, 1), (38, .if_icmp .ge 16, 3), (41, .aload_n 0, 1), (42, .getfield 9, 3), (45, .iload_n 2, 1), (46, .iconst 0, 1), (47, .iastore, 1), (48, .iinc 2 1, 3), (51, .goto (-19), 3), (54, .iconst 0, 1), (55, .istore_n 2, 1), (56, .iload_n 2, 1), (57, .aload_n 1, 1), (58, .getfield 37, 3), (61, .if_icmp .ge 26, 3), (64, .aload_n 0, 1), (65, .aload_n 0, 1), (66, .getfield 18, 3), (69, .iload_n 2, 1), (70, .aload_n 1, 1), (71, .iload_n 2, 1), (72, .invokevirtual 42, 3), (75, .invokestatic 46, 3), (78, .putfield 18, 3), (81, .iinc 2 1, 3), (84, .goto (-28), 3), (87, .return_, 1)]
def qC26 : List Instr := [.aload 0, .iconst 0, .putfield 128, .aload 0, .iconst 0, .putfield 129, .aload 0, .iconst 0, .putfield 130, .aload 0, .iconst 0, .putfield 131, .aload 0, .iconst 0, .putfield 132, .aload 0, .iconst 0, .putfield 135, .iconst 0, .istore 2, .iload 2, .aload 0, .getfield 133, .arraylength, .if_icmp .ge 32, .aload 0, .getfield 133, .iload 2, .iconst 0, .iastore, .iinc 2 1, .goto 20, .iconst 0, .istore 2, .iload 2, .aload 1, .getfield 0, .if_icmp .ge 49, .aload 0, .aload 0, .getfield 128, .iload 2, .aload 1, .iload 2, .invokevirtual 5408, .invokestatic 19, .putfield 128, .iinc 2 1, .goto 34, .return_]
/-- 27: X3 copy(LUnsaidHorse$Scene;)V -/
def qR27 : List (Nat × Instr × Nat) := [(0, .aload_n 0, 1), (1, .aload_n 1, 1), (2, .getfield 18, 3), (5, .putfield 18, 3), (8, .aload_n 0, 1), (9, .aload_n 1, 1), (10, .getfield 22, 3), (13, .putfield 22, 3), (16, .aload_n 0, 1), (17, .aload_n 1, 1), (18, .getfield 25, 3), (21, .putfield 25, 3), (24, .aload_n 0, 1), (25, .aload_n 1, 1), (26, .getfield 28, 3), (29, .putfield 28, 3), (32, .aload_n 0, 1), (33, .aload_n 1, 1), (34, .getfield 31, 3), (37, .putfield 31, 3), (40, .aload_n 0, 1), (41, .aload_n 1, 1), (42, .getfield 34, 3), (45, .putfield 34, 3), (48, .iconst 0, 1), (49, .istore_n 2, 1), (50, .iload_n 2, 1), (51, .aload_n 0, 1), (52, .getfield 9, 3), (55, .arraylength, 1), (56, .if_icmp .ge 20, 3), (59, .aload_n 0, 1), (60, .getfield 9, 3), (63, .iload_n 2, 1), (64, .aload_n 1, 1), (65, .iload_n 2, 1), (66, .invokevirtual 52, 3), (69, .iastore, 1), (70, .iinc 2 1, 3), (73, .goto (-23), 3), (76, .iconst 0, 1), (77, .istore_n 2, 1), (78, .iload_n 2, 1), (79, .aload_n 0, 1), (80, .getfield 15, 3), (83, .arraylength, 1), (84, .if_icmp .ge 20, 3), (87, .aload_n 0, 1), (88, .getfield 15, 3), (91, .iload_n 2, 1), (92, .aload_n 1, 1), (93, .iload_n 2, 1), (94, .invokevirtual 55, 3), (97, .iastore, 1), (98, .iinc 2 1, 3), (101, .goto (-23), 3), (104, .return_, 1)]
def qC27 : List Instr := [.aload 0, .aload 1, .getfield 128, .putfield 128, .aload 0, .aload 1, .getfield 129, .putfield 129, .aload 0, .aload 1, .getfield 130, .putfield 130, .aload 0, .aload 1, .getfield 131, .putfield 131, .aload 0, .aload 1, .getfield 132, .putfield 132, .aload 0, .aload 1, .getfield 135, .putfield 135, .iconst 0, .istore 2, .iload 2, .aload 0, .getfield 133, .arraylength, .if_icmp .ge 40, .aload 0, .getfield 133, .iload 2, .aload 1, .iload 2, .invokevirtual 8738, .iastore, .iinc 2 1, .goto 26, .iconst 0, .istore 2, .iload 2, .aload 0, .getfield 134, .arraylength, .if_icmp .ge 56, .aload 0, .getfield 134, .iload 2, .aload 1, .iload 2, .invokevirtual 11042, .iastore, .iinc 2 1, .goto 42, .return_]
/-- 28: X3 knownTo(I)I -/
def qR28 : List (Nat × Instr × Nat) := [(0, .aload_n 0, 1), (1, .getfield 18, 3), (4, .iload_n 1, 1), (5, .invokestatic 58, 3), (8, .ireturn, 1)]
def qC28 : List Instr := [.aload 0, .getfield 128, .iload 1, .invokestatic 2, .ireturn]
/-- 29: X3 knows(II)Z -/
def qR29 : List (Nat × Instr × Nat) := [(0, .aload_n 0, 1), (1, .iload_n 1, 1), (2, .invokevirtual 62, 3), (5, .iconst 1, 1), (6, .iload_n 2, 1), (7, .ishl, 1), (8, .iand, 1), (9, .ifCond .eq 7, 3), (12, .iconst 1, 1), (13, .goto 4, 3), (16, .iconst 0, 1), (17, .ireturn, 1)]
def qC29 : List Instr := [.aload 0, .iload 1, .invokevirtual 7202, .iconst 1, .iload 2, .ishl, .iand, .ifCond .eq 10, .iconst 1, .goto 11, .iconst 0, .ireturn]
/-- 30: X3 isHanged(I)Z -/
def qR30 : List (Nat × Instr × Nat) := [(0, .aload_n 0, 1), (1, .getfield 22, 3), (4, .iconst 1, 1), (5, .iload_n 1, 1), (6, .ishl, 1), (7, .iand, 1), (8, .ifCond .eq 7, 3), (11, .iconst 1, 1), (12, .goto 4, 3), (15, .iconst 0, 1), (16, .ireturn, 1)]
def qC30 : List Instr := [.aload 0, .getfield 129, .iconst 1, .iload 1, .ishl, .iand, .ifCond .eq 9, .iconst 1, .goto 10, .iconst 0, .ireturn]
/-- 31: X3 hasSaid(I)Z -/
def qR31 : List (Nat × Instr × Nat) := [(0, .aload_n 0, 1), (1, .getfield 25, 3), (4, .iconst 1, 1), (5, .iload_n 1, 1), (6, .ishl, 1), (7, .iand, 1), (8, .ifCond .eq 7, 3), (11, .iconst 1, 1), (12, .goto 4, 3), (15, .iconst 0, 1), (16, .ireturn, 1)]
def qC31 : List Instr := [.aload 0, .getfield 130, .iconst 1, .iload 1, .ishl, .iand, .ifCond .eq 9, .iconst 1, .goto 10, .iconst 0, .ireturn]
/-- 32: X3 isForbidden(I)Z -/
def qR32 : List (Nat × Instr × Nat) := [(0, .aload_n 0, 1), (1, .getfield 28, 3), (4, .iconst 1, 1), (5, .iload_n 1, 1), (6, .ishl, 1), (7, .iand, 1), (8, .ifCond .eq 7, 3), (11, .iconst 1, 1), (12, .goto 4, 3), (15, .iconst 0, 1), (16, .ireturn, 1)]
def qC32 : List Instr := [.aload 0, .getfield 131, .iconst 1, .iload 1, .ishl, .iand, .ifCond .eq 9, .iconst 1, .goto 10, .iconst 0, .ireturn]
/-- 33: X3 setForbidden(IZ)V -/
def qR33 : List (Nat × Instr × Nat) := [(0, .aload_n 0, 1), (1, .iload_n 2, 1), (2, .ifCond .eq 14, 3), (5, .aload_n 0, 1), (6, .getfield 28, 3), (9, .iconst 1, 1), (10, .iload_n 1, 1), (11, .ishl, 1), (12, .ior, 1), (13, .goto 13, 3), (16, .aload_n 0, 1), (17, .getfield 28, 3), (20, .iconst 1, 1), (21, .iload_n 1, 1), (22, .ishl, 1), (23, .iconst (-1), 1), (24, .ixor, 1), (25, .iand, 1), (26, .putfield 28, 3), (29, .return_, 1)]
def qC33 : List Instr := [.aload 0, .iload 2, .ifCond .eq 10, .aload 0, .getfield 131, .iconst 1, .iload 1, .ishl, .ior, .goto 18, .aload 0, .getfield 131, .iconst 1, .iload 1, .ishl, .iconst (-1), .ixor, .iand, .putfield 131, .return_]
/-- 34: X3 wordsOf(I)I -/
def qR34 : List (Nat × Instr × Nat) := [(0, .iload_n 1, 1), (1, .ifCond .lt 21, 3), (4, .iload_n 1, 1), (5, .aload_n 0, 1), (6, .getfield 9, 3), (9, .arraylength, 1), (10, .if_icmp .ge 12, 3), (13, .aload_n 0, 1), (14, .getfield 9, 3), (17, .iload_n 1, 1), (18, .iaload, 1), (19, .goto 4, 3), (22, .iconst 0, 1), (23, .ireturn, 1)]
def qC34 : List Instr := [.iload 1, .ifCond .lt 12, .iload 1, .aload 0, .getfield 133, .arraylength, .if_icmp .ge 12, .aload 0, .getfield 133, .iload 1, .iaload, .goto 13, .iconst 0, .ireturn]
/-- 35: X3 howManyInfer(LUnsaidHorse$Court;)I -/
def qR35 : List (Nat × Instr × Nat) := [(0, .iconst 0, 1), (1, .istore_n 2, 1), (2, .iconst 0, 1), (3, .istore_n 3, 1), (4, .iload_n 3, 1), (5, .aload_n 1, 1), (6, .getfield 37, 3), (9, .if_icmp .ge 25, 3), (12, .aload_n 1, 1), (13, .iload_n 3, 1), (14, .aload_n 0, 1), (15, .iload_n 3, 1), (16, .invokevirtual 62, 3), (19, .invokevirtual 65, 3), (22, .ifCond .eq 6, 3), (25, .iinc 2 1, 3), (28, .iinc 3 1, 3), (31, .goto (-27), 3), (34, .iload_n 2, 1), (35, .ireturn, 1)]
def qC35 : List Instr := [.iconst 0, .istore 2, .iconst 0, .istore 3, .iload 3, .aload 1, .getfield 0, .if_icmp .ge 18, .aload 1, .iload 3, .aload 0, .iload 3, .invokevirtual 7202, .invokevirtual 6192, .ifCond .eq 16, .iinc 2 1, .iinc 3 1, .goto 4, .iload 2, .ireturn]
/-- 36: X3 learn(II)V -/
def qR36 : List (Nat × Instr × Nat) := [(0, .aload_n 0, 1), (1, .aload_n 0, 1), (2, .getfield 18, 3), (5, .iload_n 1, 1), (6, .aload_n 0, 1), (7, .iload_n 1, 1), (8, .invokevirtual 62, 3), (11, .iconst 1, 1), (12, .iload_n 2, 1), (13, .ishl, 1), (14, .ior, 1), (15, .invokestatic 46, 3), (18, .putfield 18, 3), (21, .return_, 1)]
def qC36 : List Instr := [.aload 0, .aload 0, .getfield 128, .iload 1, .aload 0, .iload 1, .invokevirtual 7202, .iconst 1, .iload 2, .ishl, .ior, .invokestatic 19, .putfield 128, .return_]
/-- 37: X3 canTell(III)Z -/
def qR37 : List (Nat × Instr × Nat) := [(0, .iload_n 1, 1), (1, .iload_n 2, 1), (2, .if_icmp .eq 41, 3), (5, .aload_n 0, 1), (6, .iload_n 1, 1), (7, .iload_n 3, 1), (8, .invokevirtual 69, 3), (11, .ifCond .eq 32, 3), (14, .aload_n 0, 1), (15, .iload_n 2, 1), (16, .iload_n 3, 1), (17, .invokevirtual 69, 3), (20, .ifCond .ne 23, 3), (23, .aload_n 0, 1), (24, .iload_n 1, 1), (25, .invokevirtual 72, 3), (28, .ifCond .ne 15, 3), (31, .aload_n 0, 1), (32, .iload_n 2, 1), (33, .invokevirtual 72, 3), (36, .ifCond .ne 7, 3), (39, .iconst 1, 1), (40, .goto 4, 3), (43, .iconst 0, 1), (44, .ireturn, 1)]
def qC37 : List Instr := [.iload 1, .iload 2, .if_icmp .eq 23, .aload 0, .iload 1, .iload 3, .invokevirtual 7474, .ifCond .eq 23, .aload 0, .iload 2, .iload 3, .invokevirtual 7474, .ifCond .ne 23, .aload 0, .iload 1, .invokevirtual 7714, .ifCond .ne 23, .aload 0, .iload 2, .invokevirtual 7714, .ifCond .ne 23, .iconst 1, .goto 24, .iconst 0, .ireturn]
/-- 38: X3 makesInfer(LUnsaidHorse$Court;II)Z -/
def qR38 : List (Nat × Instr × Nat) := [(0, .aload_n 0, 1), (1, .iload_n 2, 1), (2, .invokevirtual 62, 3), (5, .istore 4, 2), (7, .aload_n 1, 1), (8, .iload_n 2, 1), (9, .iload 4, 2), (11, .invokevirtual 65, 3), (14, .ifCond .ne 21, 3), (17, .aload_n 1, 1), (18, .iload_n 2, 1), (19, .iload 4, 2), (21, .iconst 1, 1), (22, .iload_n 3, 1), (23, .ishl, 1), (24, .ior, 1), (25, .invokevirtual 65, 3), (28, .ifCond .eq 7, 3), (31, .iconst 1, 1), (32, .goto 4, 3), (35, .iconst 0, 1), (36, .ireturn, 1)]
def qC38 : List Instr := [.aload 0, .iload 2, .invokevirtual 7202, .istore 4, .aload 1, .iload 2, .iload 4, .invokevirtual 6192, .ifCond .ne 20, .aload 1, .iload 2, .iload 4, .iconst 1, .iload 3, .ishl, .ior, .invokevirtual 6192, .ifCond .eq 20, .iconst 1, .goto 21, .iconst 0, .ireturn]
/-- 39: X3 hangsTeller(LUnsaidHorse$Court;III)Z -/
def qR39 : List (Nat × Instr × Nat) := [(0, .aload_n 1, 1), (1, .iload_n 2, 1), (2, .iconst 2, 1), (3, .invokevirtual 76, 3), (6, .ifCond .eq 5, 3), (9, .iconst 0, 1), (10, .ireturn, 1), (11, .aload_n 0, 1), (12, .iload 4, 2), (14, .invokevirtual 79, 3), (17, .ifCond .eq 14, 3), (20, .aload_n 1, 1), (21, .iload_n 2, 1), (22, .iconst 3, 1), (23, .invokevirtual 76, 3), (26, .ifCond .ne 5, 3), (29, .iconst 1, 1), (30, .ireturn, 1), (31, .aload_n 1, 1), (32, .iload_n 3, 1), (33, .iconst 1, 1), (34, .invokevirtual 76, 3), (37, .ifCond .ne 18, 3), (40, .aload_n 0, 1), (41, .aload_n 1, 1), (42, .iload_n 3, 1), (43, .iload 4, 2), (45, .invokevirtual 82, 3), (48, .ifCond .eq 7, 3), (51, .iconst 1, 1), (52, .goto 4, 3), (55, .iconst 0, 1), (56, .ireturn, 1)]
def qC39 : List Instr := [.aload 1, .iload 2, .iconst 2, .invokevirtual 5680, .ifCond .eq 7, .iconst 0, .ireturn, .aload 0, .iload 4, .invokevirtual 8226, .ifCond .eq 18, .aload 1, .iload 2, .iconst 3, .invokevirtual 5680, .ifCond .ne 18, .iconst 1, .ireturn, .aload 1, .iload 3, .iconst 1, .invokevirtual 5680, .ifCond .ne 31, .aload 0, .aload 1, .iload 3, .iload 4, .invokevirtual 9794, .ifCond .eq 31, .iconst 1, .goto 32, .iconst 0, .ireturn]
/-- 40: X3 unpunished(LUnsaidHorse$Court;II)I -/
def qR40 : List (Nat × Instr × Nat) := [(0, .iconst 0, 1), (1, .istore 4, 2), (3, .iconst 0, 1), (4, .istore 5, 2), (6, .iload 5, 2), (8, .iconst 4, 1), (9, .if_icmp .ge 41, 3), (12, .aload_n 0, 1), (13, .iload_n 2, 1), (14, .iload_n 3, 1), (15, .iload 5, 2), (17, .invokevirtual 86, 3), (20, .ifCond .eq 24, 3), (23, .aload_n 0, 1), (24, .aload_n 1, 1), (25, .iload_n 2, 1), (26, .iload_n 3, 1), (27, .iload 5, 2), (29, .invokevirtual 90, 3), (32, .ifCond .ne 12, 3), (35, .iload 4, 2), (37, .iconst 1, 1), (38, .iload 5, 2), (40, .ishl, 1), (41, .ior, 1), (42, .istore 4, 2), (44, .iinc 5 1, 3), (47, .goto (-41), 3), (50, .iload 4, 2), (52, .ireturn, 1)]
def qC40 : List Instr := [.iconst 0, .istore 4, .iconst 0, .istore 5, .iload 5, .iconst 4, .if_icmp .ge 28, .aload 0, .iload 2, .iload 3, .iload 5, .invokevirtual 9538, .ifCond .eq 26, .aload 0, .aload 1, .iload 2, .iload 3, .iload 5, .invokevirtual 10066, .ifCond .ne 26, .iload 4, .iconst 1, .iload 5, .ishl, .ior, .istore 4, .iinc 5 1, .goto 4, .iload 4, .ireturn]
/-- 41: X3 pass(LUnsaidHorse$Court;III)I -/
def qR41 : List (Nat × Instr × Nat) := [(0, .aload_n 0, 1), (1, .aload_n 1, 1), (2, .iload_n 3, 1), (3, .iload 4, 2), (5, .invokevirtual 82, 3), (8, .istore 5, 2), (10, .aload_n 0, 1), (11, .aload_n 1, 1), (12, .iload_n 2, 1), (13, .iload_n 3, 1), (14, .iload 4, 2), (16, .invokevirtual 90, 3), (19, .istore 6, 2), (21, .iload 5, 2), (23, .ifCond .eq 16, 3), (26, .aload_n 1, 1), (27, .iload_n 3, 1), (28, .iconst 1, 1), (29, .invokevirtual 76, 3), (32, .ifCond .eq 7, 3), (35, .iconst 1, 1), (36, .goto 4, 3), (39, .iconst 0, 1), (40, .istore 7, 2), (42, .aload_n 0, 1), (43, .iload_n 3, 1), (44, .iload 4, 2), (46, .invokevirtual 94, 3), (49, .aload_n 0, 1), (50, .dup, 1), (51, .getfield 31, 3), (54, .iconst 1, 1), (55, .iadd, 1), (56, .putfield 31, 3), (59, .iload_n 2, 1), (60, .ifCond .lt 22, 3), (63, .iload_n 2, 1), (64, .aload_n 0, 1), (65, .getfield 9, 3), (68, .arraylength, 1), (69, .if_icmp .ge 13, 3), (72, .aload_n 0, 1), (73, .getfield 9, 3), (76, .iload_n 2, 1), (77, .dup2, 1), (78, .iaload, 1), (79, .iconst 1, 1), (80, .iadd, 1), (81, .iastore, 1), (82, .iload 6, 2), (84, .ifCond .eq 15, 3), (87, .aload_n 0, 1), (88, .dup, 1), (89, .getfield 22, 3), (92, .iconst 1, 1), (93, .iload_n 2, 1), (94, .ishl, 1), (95, .ior, 1), (96, .putfield 22, 3), (99, .iload 7, 2), (101, .ifCond .eq 15, 3), (104, .aload_n 0, 1), (105, .dup, 1), (106, .getfield 25, 3), (109, .iconst 1, 1), (110, .iload_n 3, 1), (111, .ishl, 1), (112, .ior, 1), (113, .putfield 25, 3), (116, .iload 5, 2), (118, .ifCond .eq 7, 3), (121, .iconst 1, 1), (122, .goto 4, 3), (125, .iconst 0, 1), (126, .iload 6, 2), (128, .ifCond .eq 7, 3), (131, .iconst 2, 1), (132, .goto 4, 3), (135, .iconst 0, 1), (136, .iadd, 1), (137, .iload 7, 2), (139, .ifCond .eq 7, 3), (142, .iconst 4, 1), (143, .goto 4, 3), (146, .iconst 0, 1), (147, .iadd, 1), (148, .ireturn, 1)]
def qC41 : List Instr := [.aload 0, .aload 1, .iload 3, .iload 4, .invokevirtual 9794, .istore 5, .aload 0, .aload 1, .iload 2, .iload 3, .iload 4, .invokevirtual 10066, .istore 6, .iload 5, .ifCond .eq 22, .aload 1, .iload 3, .iconst 1, .invokevirtual 5680, .ifCond .eq 22, .iconst 1, .goto 23, .iconst 0, .istore 7, .aload 0, .iload 3, .iload 4, .invokevirtual 9266, .aload 0, .dup, .getfield 132, .iconst 1, .iadd, .putfield 132, .iload 2, .ifCond .lt 49, .iload 2, .aload 0, .getfield 133, .arraylength, .if_icmp .ge 49, .aload 0, .getfield 133, .iload 2, .dup2, .iaload, .iconst 1, .iadd, .iastore, .iload 6, .ifCond .eq 59, .aload 0, .dup, .getfield 129, .iconst 1, .iload 2, .ishl, .ior, .putfield 129, .iload 7, .ifCond .eq 69, .aload 0, .dup, .getfield 130, .iconst 1, .iload 3, .ishl, .ior, .putfield 130, .iload 5, .ifCond .eq 73, .iconst 1, .goto 74, .iconst 0, .iload 6, .ifCond .eq 78, .iconst 2, .goto 79, .iconst 0, .iadd, .iload 7, .ifCond .eq 84, .iconst 4, .goto 85, .iconst 0, .iadd, .ireturn]
/-- 42: X3 addAsked(IIZ)V -/
def qR42 : List (Nat × Instr × Nat) := [(0, .aload_n 0, 1), (1, .getfield 34, 3), (4, .ifCond .lt 51, 3), (7, .aload_n 0, 1), (8, .getfield 34, 3), (11, .aload_n 0, 1), (12, .getfield 15, 3), (15, .arraylength, 1), (16, .if_icmp .ge 39, 3), (19, .aload_n 0, 1), (20, .getfield 15, 3), (23, .aload_n 0, 1), (24, .getfield 34, 3), (27, .bipush 16, 2), (29, .iload_n 1, 1), (30, .imul, 1), (31, .iload_n 2, 1), (32, .iadd, 1), (33, .iload_n 3, 1), (34, .ifCond .eq 8, 3), (37, .bipush 64, 2), (39, .goto 4, 3), (42, .iconst 0, 1), (43, .iadd, 1), (44, .iastore, 1), (45, .aload_n 0, 1), (46, .dup, 1), (47, .getfield 34, 3), (50, .iconst 1, 1), (51, .iadd, 1), (52, .putfield 34, 3), (55, .return_, 1)]
def qC42 : List Instr := [.aload 0, .getfield 135, .ifCond .lt 31, .aload 0, .getfield 135, .aload 0, .getfield 134, .arraylength, .if_icmp .ge 31, .aload 0, .getfield 134, .aload 0, .getfield 135, .iconst 16, .iload 1, .imul, .iload 2, .iadd, .iload 3, .ifCond .eq 22, .iconst 64, .goto 23, .iconst 0, .iadd, .iastore, .aload 0, .dup, .getfield 135, .iconst 1, .iadd, .putfield 135, .return_]
/-- 43: X3 askedAt(I)I -/
def qR43 : List (Nat × Instr × Nat) := [(0, .iload_n 1, 1), (1, .ifCond .lt 21, 3), (4, .iload_n 1, 1), (5, .aload_n 0, 1), (6, .getfield 15, 3), (9, .arraylength, 1), (10, .if_icmp .ge 12, 3), (13, .aload_n 0, 1), (14, .getfield 15, 3), (17, .iload_n 1, 1), (18, .iaload, 1), (19, .goto 4, 3), (22, .iconst 0, 1), (23, .ireturn, 1)]
def qC43 : List Instr := [.iload 1, .ifCond .lt 12, .iload 1, .aload 0, .getfield 134, .arraylength, .if_icmp .ge 12, .aload 0, .getfield 134, .iload 1, .iaload, .goto 13, .iconst 0, .ireturn]
/-- 44: X3 possibleAmounts(LUnsaidHorse$Court;I)I -/
def qR44 : List (Nat × Instr × Nat) := [(0, .sipush 511, 3), (3, .istore_n 3, 1), (4, .iconst 0, 1), (5, .istore 4, 2), (7, .iload 4, 2), (9, .aload_n 0, 1), (10, .getfield 34, 3), (13, .if_icmp .ge 55, 3), (16, .aload_n 0, 1), (17, .iload 4, 2), (19, .invokevirtual 55, 3), (22, .istore 5, 2), (24, .aload_n 1, 1), (25, .iload 5, 2), (27, .iconst 4, 1), (28, .ishr, 1), (29, .iconst 3, 1), (30, .iand, 1), (31, .iload 5, 2), (33, .bipush 15, 2), (35, .iand, 1), (36, .iload_n 2, 1), (37, .invokevirtual 98, 3), (40, .istore 6, 2), (42, .iload_n 3, 1), (43, .iload 5, 2), (45, .bipush 64, 2), (47, .iand, 1), (48, .ifCond .eq 8, 3), (51, .iload 6, 2), (53, .goto 7, 3), (56, .iload 6, 2), (58, .iconst (-1), 1), (59, .ixor, 1), (60, .iand, 1), (61, .istore_n 3, 1), (62, .iinc 4 1, 3), (65, .goto (-58), 3), (68, .iload_n 3, 1), (69, .ireturn, 1)]
def qC44 : List Instr := [.iconst 511, .istore 3, .iconst 0, .istore 4, .iload 4, .aload 0, .getfield 135, .if_icmp .ge 38, .aload 0, .iload 4, .invokevirtual 11042, .istore 5, .aload 1, .iload 5, .iconst 4, .ishr, .iconst 3, .iand, .iload 5, .iconst 15, .iand, .iload 2, .invokevirtual 6464, .istore 6, .iload 3, .iload 5, .iconst 64, .iand, .ifCond .eq 31, .iload 6, .goto 34, .iload 6, .iconst (-1), .ixor, .iand, .istore 3, .iinc 4 1, .goto 4, .iload 3, .ireturn]
/-- 45: X4 letter(I)I -/
def qR45 : List (Nat × Instr × Nat) := [(0, .iload_n 1, 1), (1, .bipush 32, 2), (3, .if_icmp .lt 9, 3), (6, .iload_n 1, 1), (7, .bipush 126, 2), (9, .if_icmp .le 6, 3), (12, .bipush (-102), 2), (14, .ireturn, 1), (15, .aload_n 0, 1), (16, .getfield 10, 3), (19, .getfield 40, 3), (22, .bipush 22, 2), (24, .if_icmp .lt 6, 3), (27, .bipush (-104), 2), (29, .ireturn, 1), (30, .aload_n 0, 1), (31, .getfield 10, 3), (34, .iload_n 1, 1), (35, .invokevirtual 44, 3), (38, .aload_n 0, 1), (39, .getfield 10, 3), (42, .getfield 40, 3), (45, .ireturn, 1)]
def qC45 : List Instr := [.iload 1, .iconst 32, .if_icmp .lt 6, .iload 1, .iconst 126, .if_icmp .le 8, .iconst (-102), .ireturn, .aload 0, .getfield 192, .getfield 65, .iconst 22, .if_icmp .lt 15, .iconst (-104), .ireturn, .aload 0, .getfield 192, .iload 1, .invokevirtual 545, .aload 0, .getfield 192, .getfield 65, .ireturn]
/-- 46: X4 blank()I -/
def qR46 : List (Nat × Instr × Nat) := [(0, .aload_n 0, 1), (1, .getfield 10, 3), (4, .getfield 40, 3), (7, .istore_n 1, 1), (8, .aload_n 0, 1), (9, .getfield 10, 3), (12, .iconst 0, 1), (13, .putfield 40, 3), (16, .iload_n 1, 1), (17, .ireturn, 1)]
def qC46 : List Instr := [.aload 0, .getfield 192, .getfield 65, .istore 1, .aload 0, .getfield 192, .iconst 0, .putfield 65, .iload 1, .ireturn]
/-- 47: X4 fault()I -/
def qR47 : List (Nat × Instr × Nat) := [(0, .aload_n 0, 1), (1, .getfield 10, 3), (4, .invokevirtual 48, 3), (7, .ireturn, 1)]
def qC47 : List Instr := [.aload 0, .getfield 192, .invokevirtual 1553, .ireturn]
/-- 48: X4 court()I -/
def qR48 : List (Nat × Instr × Nat) := [(0, .aload_n 0, 1), (1, .getfield 10, 3), (4, .invokevirtual 52, 3), (7, .ifCond .ne 6, 3), (10, .bipush (-103), 2), (12, .ireturn, 1), (13, .aload_n 0, 1), (14, .getfield 19, 3), (17, .aload_n 0, 1), (18, .getfield 10, 3), (21, .invokevirtual 56, 3), (24, .aload_n 0, 1), (25, .getfield 26, 3), (28, .aload_n 0, 1), (29, .getfield 19, 3), (32, .invokevirtual 60, 3), (35, .aload_n 0, 1), (36, .iconst 0, 1), (37, .putfield 64, 3), (40, .aload_n 0, 1), (41, .dup, 1), (42, .getfield 68, 3), (45, .iconst 1, 1), (46, .iadd, 1), (47, .putfield 68, 3), (50, .aload_n 0, 1), (51, .getfield 10, 3), (54, .iconst 0, 1), (55, .putfield 40, 3), (58, .aload_n 0, 1), (59, .getfield 19, 3), (62, .getfield 71, 3), (65, .ireturn, 1)]
def qC48 : List Instr := [.aload 0, .getfield 192, .invokevirtual 1809, .ifCond .ne 6, .iconst (-103), .ireturn, .aload 0, .getfield 193, .aload 0, .getfield 192, .invokevirtual 2848, .aload 0, .getfield 194, .aload 0, .getfield 193, .invokevirtual 6690, .aload 0, .iconst 0, .putfield 198, .aload 0, .dup, .getfield 199, .iconst 1, .iadd, .putfield 199, .aload 0, .getfield 192, .iconst 0, .putfield 65, .aload 0, .getfield 193, .getfield 0, .ireturn]
/-- 49: X4 about(II)I -/
def qR49 : List (Nat × Instr × Nat) := [(0, .aload_n 0, 1), (1, .getfield 19, 3), (4, .iload_n 1, 1), (5, .invokevirtual 74, 3), (8, .ifCond .ne 6, 3), (11, .bipush (-101), 2), (13, .ireturn, 1), (14, .aload_n 0, 1), (15, .getfield 26, 3), (18, .iload_n 1, 1), (19, .invokevirtual 78, 3), (22, .istore_n 3, 1), (23, .iload_n 2, 1), (24, .tableswitch 138 0 7 #[48, 57, 66, 68, 77, 95, 112, 129], 48), (72, .aload_n 0, 1), (73, .getfield 19, 3), (76, .iload_n 1, 1), (77, .invokevirtual 82, 3), (80, .ireturn, 1), (81, .aload_n 0, 1), (82, .getfield 19, 3), (85, .iload_n 1, 1), (86, .invokevirtual 85, 3), (89, .ireturn, 1), (90, .iload_n 3, 1), (91, .ireturn, 1), (92, .aload_n 0, 1), (93, .getfield 19, 3), (96, .iload_n 3, 1), (97, .invokevirtual 88, 3), (100, .ireturn, 1), (101, .aload_n 0, 1), (102, .getfield 19, 3), (105, .iload_n 1, 1), (106, .iload_n 3, 1), (107, .invokevirtual 91, 3), (110, .ifCond .eq 7, 3), (113, .iconst 1, 1), (114, .goto 4, 3), (117, .iconst 0, 1), (118, .ireturn, 1), (119, .aload_n 0, 1), (120, .getfield 26, 3), (123, .iload_n 1, 1), (124, .invokevirtual 95, 3), (127, .ifCond .eq 7, 3), (130, .iconst 1, 1), (131, .goto 4, 3), (134, .iconst 0, 1), (135, .ireturn, 1), (136, .aload_n 0, 1), (137, .getfield 26, 3), (140, .iload_n 1, 1), (141, .invokevirtual 98, 3), (144, .ifCond .eq 7, 3), (147, .iconst 1, 1), (148, .goto 4, 3), (151, .iconst 0, 1), (152, .ireturn, 1), (153, .aload_n 0, 1), (154, .getfield 26, 3), (157, .iload_n 1, 1), (158, .invokevirtual 101, 3), (161, .ireturn, 1), (162, .bipush (-102), 2), (164, .ireturn, 1)]
def qC49 : List Instr := [.aload 0, .getfield 193, .iload 1, .invokevirtual 3872, .ifCond .ne 7, .iconst (-101), .ireturn, .aload 0, .getfield 194, .iload 1, .invokevirtual 7202, .istore 3, .iload 2, .lookupswitch 64 #[(0, 14), (1, 19), (2, 24), (3, 26), (4, 31), (5, 41), (6, 50), (7, 59)], .aload 0, .getfield 193, .iload 1, .invokevirtual 4640, .ireturn, .aload 0, .getfield 193, .iload 1, .invokevirtual 4896, .ireturn, .iload 3, .ireturn, .aload 0, .getfield 193, .iload 3, .invokevirtual 5920, .ireturn, .aload 0, .getfield 193, .iload 1, .iload 3, .invokevirtual 6192, .ifCond .eq 39, .iconst 1, .goto 40, .iconst 0, .ireturn, .aload 0, .getfield 194, .iload 1, .invokevirtual 7714, .ifCond .eq 48, .iconst 1, .goto 49, .iconst 0, .ireturn, .aload 0, .getfield 194, .iload 1, .invokevirtual 7970, .ifCond .eq 57, .iconst 1, .goto 58, .iconst 0, .ireturn, .aload 0, .getfield 194, .iload 1, .invokevirtual 8738, .ireturn, .iconst (-102), .ireturn]
/-- 50: X4 as(II)I -/
def qR50 : List (Nat × Instr × Nat) := [(0, .aload_n 0, 1), (1, .getfield 19, 3), (4, .iload_n 1, 1), (5, .invokevirtual 74, 3), (8, .ifCond .ne 6, 3), (11, .bipush (-101), 2), (13, .ireturn, 1), (14, .iload_n 2, 1), (15, .ifCond .lt 8, 3), (18, .iload_n 2, 1), (19, .iconst 4, 1), (20, .if_icmp .le 6, 3), (23, .bipush (-102), 2), (25, .ireturn, 1), (26, .aload_n 0, 1), (27, .getfield 19, 3), (30, .iload_n 1, 1), (31, .iload_n 2, 1), (32, .invokevirtual 104, 3), (35, .ifCond .eq 7, 3), (38, .iload_n 1, 1), (39, .goto 4, 3), (42, .iconst (-1), 1), (43, .ireturn, 1)]
def qC50 : List Instr := [.aload 0, .getfield 193, .iload 1, .invokevirtual 3872, .ifCond .ne 7, .iconst (-101), .ireturn, .iload 2, .ifCond .lt 12, .iload 2, .iconst 4, .if_icmp .le 14, .iconst (-102), .ireturn, .aload 0, .getfield 193, .iload 1, .iload 2, .invokevirtual 5680, .ifCond .eq 22, .iload 1, .goto 23, .iconst (-1), .ireturn]
/-- 51: X4 sign(I)I -/
def qR51 : List (Nat × Instr × Nat) := [(0, .aload_n 0, 1), (1, .getfield 19, 3), (4, .iload_n 1, 1), (5, .invokevirtual 107, 3), (8, .ifCond .eq 14, 3), (11, .aload_n 0, 1), (12, .getfield 19, 3), (15, .iload_n 1, 1), (16, .invokevirtual 110, 3), (19, .goto 5, 3), (22, .bipush (-101), 2), (24, .ireturn, 1)]
def qC51 : List Instr := [.aload 0, .getfield 193, .iload 1, .invokevirtual 4384, .ifCond .eq 10, .aload 0, .getfield 193, .iload 1, .invokevirtual 5152, .goto 11, .iconst (-101), .ireturn]
/-- 52: X4 forbid(IZ)I -/
def qR52 : List (Nat × Instr × Nat) := [(0, .aload_n 0, 1), (1, .getfield 19, 3), (4, .iload_n 1, 1), (5, .invokevirtual 107, 3), (8, .ifCond .ne 6, 3), (11, .bipush (-101), 2), (13, .ireturn, 1), (14, .aload_n 0, 1), (15, .getfield 26, 3), (18, .iload_n 1, 1), (19, .invokevirtual 113, 3), (22, .ifCond .eq 7, 3), (25, .iconst 1, 1), (26, .goto 4, 3), (29, .iconst 0, 1), (30, .istore_n 3, 1), (31, .aload_n 0, 1), (32, .getfield 26, 3), (35, .iload_n 1, 1), (36, .iload_n 2, 1), (37, .invokevirtual 116, 3), (40, .iload_n 3, 1), (41, .ireturn, 1)]
def qC52 : List Instr := [.aload 0, .getfield 193, .iload 1, .invokevirtual 4384, .ifCond .ne 7, .iconst (-101), .ireturn, .aload 0, .getfield 194, .iload 1, .invokevirtual 8226, .ifCond .eq 14, .iconst 1, .goto 15, .iconst 0, .istore 3, .aload 0, .getfield 194, .iload 1, .iload 2, .invokevirtual 8498, .iload 3, .ireturn]
/-- 53: X4 tell(III)I -/
def qR53 : List (Nat × Instr × Nat) := [(0, .aload_n 0, 1), (1, .getfield 19, 3), (4, .iload_n 1, 1), (5, .iload_n 2, 1), (6, .invokevirtual 120, 3), (9, .ifCond .eq 14, 3), (12, .aload_n 0, 1), (13, .getfield 19, 3), (16, .iload_n 3, 1), (17, .invokevirtual 107, 3), (20, .ifCond .ne 6, 3), (23, .bipush (-101), 2), (25, .ireturn, 1), (26, .aload_n 0, 1), (27, .getfield 26, 3), (30, .iload_n 1, 1), (31, .iload_n 2, 1), (32, .iload_n 3, 1), (33, .invokevirtual 123, 3), (36, .ifCond .ne 6, 3), (39, .bipush (-103), 2), (41, .ireturn, 1), (42, .aload_n 0, 1), (43, .getfield 26, 3), (46, .aload_n 0, 1), (47, .getfield 19, 3), (50, .iload_n 1, 1), (51, .iload_n 2, 1), (52, .iload_n 3, 1), (53, .invokevirtual 127, 3), (56, .ireturn, 1)]
def qC53 : List Instr := [.aload 0, .getfield 193, .iload 1, .iload 2, .invokevirtual 4144, .ifCond .eq 11, .aload 0, .getfield 193, .iload 3, .invokevirtual 4384, .ifCond .ne 13, .iconst (-101), .ireturn, .aload 0, .getfield 194, .iload 1, .iload 2, .iload 3, .invokevirtual 9538, .ifCond .ne 22, .iconst (-103), .ireturn, .aload 0, .getfield 194, .aload 0, .getfield 193, .iload 1, .iload 2, .iload 3, .invokevirtual 10578, .ireturn]
/-- 54: X4 plan(II)I -/
def qR54 : List (Nat × Instr × Nat) := [(0, .aload_n 0, 1), (1, .getfield 19, 3), (4, .iload_n 1, 1), (5, .invokevirtual 74, 3), (8, .ifCond .ne 6, 3), (11, .bipush (-101), 2), (13, .ireturn, 1), (14, .iload_n 2, 1), (15, .ifCond .eq 18, 3), (18, .iload_n 2, 1), (19, .bipush 10, 2), (21, .if_icmp .lt 9, 3), (24, .iload_n 2, 1), (25, .bipush 13, 2), (27, .if_icmp .lt 6, 3), (30, .bipush (-102), 2), (32, .ireturn, 1), (33, .aload_n 0, 1), (34, .getfield 19, 3), (37, .iload_n 1, 1), (38, .iconst 1, 1), (39, .invokevirtual 104, 3), (42, .ifCond .eq 23, 3), (45, .aload_n 0, 1), (46, .getfield 26, 3), (49, .iload_n 1, 1), (50, .invokevirtual 95, 3), (53, .ifCond .ne 12, 3), (56, .aload_n 0, 1), (57, .getfield 131, 3), (60, .bipush 12, 2), (62, .if_icmp .lt 6, 3), (65, .bipush (-103), 2), (67, .ireturn, 1), (68, .aload_n 0, 1), (69, .dup, 1), (70, .getfield 131, 3), (73, .iconst 1, 1), (74, .iadd, 1), (75, .putfield 131, 3), (78, .aload_n 0, 1), (79, .iload_n 1, 1), (80, .invokevirtual 134, 3), (83, .istore_n 3, 1), (84, .iload_n 2, 1), (85, .ifCond .ne 5, 3), (88, .iload_n 3, 1), (89, .ireturn, 1), (90, .iload_n 2, 1), (91, .bipush 10, 2), (93, .isub, 1), (94, .istore 4, 2), (96, .iload 4, 2), (98, .ifCond .lt 29, 3), (101, .iload 4, 2), (103, .iload_n 3, 1), (104, .if_icmp .ge 23, 3), (107, .iload 4, 2), (109, .aload_n 0, 1), (110, .getfield 36, 3), (113, .arraylength, 1), (114, .if_icmp .ge 13, 3), (117, .aload_n 0, 1), (118, .getfield 36, 3), (121, .iload 4, 2), (123, .iaload, 1), (124, .goto 4, 3), (127, .iconst (-1), 1), (128, .ireturn, 1)]
def qC54 : List Instr := [.aload 0, .getfield 193, .iload 1, .invokevirtual 3872, .ifCond .ne 7, .iconst (-101), .ireturn, .iload 2, .ifCond .eq 17, .iload 2, .iconst 10, .if_icmp .lt 15, .iload 2, .iconst 13, .if_icmp .lt 17, .iconst (-102), .ireturn, .aload 0, .getfield 193, .iload 1, .iconst 1, .invokevirtual 5680, .ifCond .eq 32, .aload 0, .getfield 194, .iload 1, .invokevirtual 7714, .ifCond .ne 32, .aload 0, .getfield 200, .iconst 12, .if_icmp .lt 34, .iconst (-103), .ireturn, .aload 0, .dup, .getfield 200, .iconst 1, .iadd, .putfield 200, .aload 0, .iload 1, .invokevirtual 17187, .istore 3, .iload 2, .ifCond .ne 48, .iload 3, .ireturn, .iload 2, .iconst 10, .isub, .istore 4, .iload 4, .ifCond .lt 67, .iload 4, .iload 3, .if_icmp .ge 67, .iload 4, .aload 0, .getfield 197, .arraylength, .if_icmp .ge 67, .aload 0, .getfield 197, .iload 4, .iaload, .goto 68, .iconst (-1), .ireturn]
/-- 55: X4 safe(II)I -/
def qR55 : List (Nat × Instr × Nat) := [(0, .aload_n 0, 1), (1, .getfield 19, 3), (4, .iload_n 1, 1), (5, .iload_n 2, 1), (6, .invokevirtual 120, 3), (9, .ifCond .ne 6, 3), (12, .bipush (-101), 2), (14, .ireturn, 1), (15, .aload_n 0, 1), (16, .getfield 26, 3), (19, .iload_n 1, 1), (20, .invokevirtual 95, 3), (23, .ifCond .ne 14, 3), (26, .aload_n 0, 1), (27, .getfield 26, 3), (30, .iload_n 2, 1), (31, .invokevirtual 95, 3), (34, .ifCond .eq 6, 3), (37, .bipush (-103), 2), (39, .ireturn, 1), (40, .aload_n 0, 1), (41, .getfield 26, 3), (44, .aload_n 0, 1), (45, .getfield 19, 3), (48, .iload_n 1, 1), (49, .iload_n 2, 1), (50, .invokevirtual 137, 3), (53, .ireturn, 1)]
def qC55 : List Instr := [.aload 0, .getfield 193, .iload 1, .iload 2, .invokevirtual 4144, .ifCond .ne 8, .iconst (-101), .ireturn, .aload 0, .getfield 194, .iload 1, .invokevirtual 7714, .ifCond .ne 18, .aload 0, .getfield 194, .iload 2, .invokevirtual 7714, .ifCond .eq 20, .iconst (-103), .ireturn, .aload 0, .getfield 194, .aload 0, .getfield 193, .iload 1, .iload 2, .invokevirtual 10306, .ireturn]
/-- 56: X4 ask(IIZ)I -/
def qR56 : List (Nat × Instr × Nat) := [(0, .aload_n 0, 1), (1, .getfield 19, 3), (4, .iload_n 1, 1), (5, .invokevirtual 74, 3), (8, .ifCond .ne 6, 3), (11, .bipush (-101), 2), (13, .ireturn, 1), (14, .iload_n 2, 1), (15, .ifCond .lt 9, 3), (18, .iload_n 2, 1), (19, .bipush 15, 2), (21, .if_icmp .le 6, 3), (24, .bipush (-102), 2), (26, .ireturn, 1), (27, .aload_n 0, 1), (28, .getfield 26, 3), (31, .getfield 141, 3), (34, .bipush 6, 2), (36, .if_icmp .lt 6, 3), (39, .bipush (-104), 2), (41, .ireturn, 1), (42, .aload_n 0, 1), (43, .getfield 26, 3), (46, .iload_n 1, 1), (47, .iload_n 2, 1), (48, .iload_n 3, 1), (49, .invokevirtual 144, 3), (52, .aload_n 0, 1), (53, .getfield 26, 3), (56, .getfield 141, 3), (59, .ireturn, 1)]
def qC56 : List Instr := [.aload 0, .getfield 193, .iload 1, .invokevirtual 3872, .ifCond .ne 7, .iconst (-101), .ireturn, .iload 2, .ifCond .lt 12, .iload 2, .iconst 15, .if_icmp .le 14, .iconst (-102), .ireturn, .aload 0, .getfield 194, .getfield 135, .iconst 6, .if_icmp .lt 21, .iconst (-104), .ireturn, .aload 0, .getfield 194, .iload 1, .iload 2, .iload 3, .invokevirtual 10818, .aload 0, .getfield 194, .getfield 135, .ireturn]
/-- 57: X4 forget()I -/
def qR57 : List (Nat × Instr × Nat) := [(0, .aload_n 0, 1), (1, .getfield 26, 3), (4, .getfield 141, 3), (7, .istore_n 1, 1), (8, .aload_n 0, 1), (9, .getfield 26, 3), (12, .iconst 0, 1), (13, .putfield 141, 3), (16, .iload_n 1, 1), (17, .ireturn, 1)]
def qC57 : List Instr := [.aload 0, .getfield 194, .getfield 135, .istore 1, .aload 0, .getfield 194, .iconst 0, .putfield 135, .iload 1, .ireturn]
/-- 58: X4 tells(I)I -/
def qR58 : List (Nat × Instr × Nat) := [(0, .aload_n 0, 1), (1, .getfield 19, 3), (4, .iload_n 1, 1), (5, .invokevirtual 107, 3), (8, .ifCond .eq 18, 3), (11, .aload_n 0, 1), (12, .getfield 26, 3), (15, .aload_n 0, 1), (16, .getfield 19, 3), (19, .iload_n 1, 1), (20, .invokevirtual 148, 3), (23, .goto 5, 3), (26, .bipush (-101), 2), (28, .ireturn, 1)]
def qC58 : List Instr := [.aload 0, .getfield 193, .iload 1, .invokevirtual 4384, .ifCond .eq 12, .aload 0, .getfield 194, .aload 0, .getfield 193, .iload 1, .invokevirtual 11314, .goto 13, .iconst (-101), .ireturn]
/-- 59: X4 next(I)I -/
def qR59 : List (Nat × Instr × Nat) := [(0, .aload_n 0, 1), (1, .getfield 19, 3), (4, .iload_n 1, 1), (5, .invokevirtual 107, 3), (8, .ifCond .ne 6, 3), (11, .bipush (-101), 2), (13, .ireturn, 1), (14, .aload_n 0, 1), (15, .getfield 26, 3), (18, .aload_n 0, 1), (19, .getfield 19, 3), (22, .iload_n 1, 1), (23, .invokevirtual 148, 3), (26, .istore_n 2, 1), (27, .iload_n 2, 1), (28, .ifCond .ne 7, 3), (31, .iconst (-1), 1), (32, .goto 9, 3), (35, .aload_n 0, 1), (36, .iload_n 1, 1), (37, .iload_n 2, 1), (38, .invokevirtual 152, 3), (41, .ireturn, 1)]
def qC59 : List Instr := [.aload 0, .getfield 193, .iload 1, .invokevirtual 4384, .ifCond .ne 7, .iconst (-101), .ireturn, .aload 0, .getfield 194, .aload 0, .getfield 193, .iload 1, .invokevirtual 11314, .istore 2, .iload 2, .ifCond .ne 18, .iconst (-1), .goto 22, .aload 0, .iload 1, .iload 2, .invokevirtual 17715, .ireturn]
/-- 60: X4 audiences(III)I -/
def qR60 : List (Nat × Instr × Nat) := [(0, .iload_n 1, 1), (1, .iconst 1, 1), (2, .if_icmp .lt 22, 3), (5, .iload_n 1, 1), (6, .bipush 60, 2), (8, .if_icmp .gt 16, 3), (11, .iload_n 2, 1), (12, .ifCond .lt 12, 3), (15, .iload_n 3, 1), (16, .ifCond .lt 8, 3), (19, .iload_n 3, 1), (20, .iconst 2, 1), (21, .if_icmp .le 6, 3), (24, .bipush (-102), 2), (26, .ireturn, 1), (27, .aload_n 0, 1), (28, .getfield 19, 3), (31, .getfield 71, 3), (34, .ifCond .ne 6, 3), (37, .bipush (-103), 2), (39, .ireturn, 1), (40, .aload_n 0, 1), (41, .getfield 33, 3), (44, .aload_n 0, 1), (45, .getfield 26, 3), (48, .invokevirtual 156, 3), (51, .aload_n 0, 1), (52, .iload_n 1, 1), (53, .iload_n 2, 1), (54, .invokevirtual 160, 3), (57, .istore 4, 2), (59, .iload_n 3, 1), (60, .lookupswitch 51 #[(0, 28), (1, 39)], 28), (88, .aload_n 0, 1), (89, .getfield 33, 3), (92, .getfield 163, 3), (95, .invokestatic 166, 3), (98, .ireturn, 1), (99, .aload_n 0, 1), (100, .getfield 33, 3), (103, .aload_n 0, 1), (104, .getfield 19, 3), (107, .invokevirtual 171, 3), (110, .ireturn, 1), (111, .iload 4, 2), (113, .ireturn, 1)]
def qC60 : List Instr := [.iload 1, .iconst 1, .if_icmp .lt 13, .iload 1, .iconst 60, .if_icmp .gt 13, .iload 2, .ifCond .lt 13, .iload 3, .ifCond .lt 13, .iload 3, .iconst 2, .if_icmp .le 15, .iconst (-102), .ireturn, .aload 0, .getfield 193, .getfield 0, .ifCond .ne 21, .iconst (-103), .ireturn, .aload 0, .getfield 196, .aload 0, .getfield 194, .invokevirtual 6946, .aload 0, .iload 1, .iload 2, .invokevirtual 17971, .istore 4, .iload 3, .lookupswitch 44 #[(0, 33), (1, 38)], .aload 0, .getfield 196, .getfield 129, .invokestatic 2161, .ireturn, .aload 0, .getfield 196, .aload 0, .getfield 193, .invokevirtual 8994, .ireturn, .iload 4, .ireturn]
/-- 61: X4 image()I -/
def qR61 : List (Nat × Instr × Nat) := [(0, .aload_n 0, 1), (1, .getfield 19, 3), (4, .getfield 71, 3), (7, .ifCond .ne 6, 3), (10, .bipush (-103), 2), (12, .ireturn, 1), (13, .aload_n 0, 1), (14, .getfield 30, 3), (17, .aload_n 0, 1), (18, .getfield 26, 3), (21, .invokevirtual 156, 3), (24, .aload_n 0, 1), (25, .iconst 1, 1), (26, .putfield 64, 3), (29, .aload_n 0, 1), (30, .getfield 26, 3), (33, .getfield 175, 3), (36, .ireturn, 1)]
def qC61 : List Instr := [.aload 0, .getfield 193, .getfield 0, .ifCond .ne 6, .iconst (-103), .ireturn, .aload 0, .getfield 195, .aload 0, .getfield 194, .invokevirtual 6946, .aload 0, .iconst 1, .putfield 198, .aload 0, .getfield 194, .getfield 132, .ireturn]
/-- 62: X4 restore()I -/
def qR62 : List (Nat × Instr × Nat) := [(0, .aload_n 0, 1), (1, .getfield 64, 3), (4, .ifCond .ne 6, 3), (7, .bipush (-103), 2), (9, .ireturn, 1), (10, .aload_n 0, 1), (11, .getfield 26, 3), (14, .aload_n 0, 1), (15, .getfield 30, 3), (18, .invokevirtual 156, 3), (21, .aload_n 0, 1), (22, .getfield 26, 3), (25, .getfield 175, 3), (28, .ireturn, 1)]
def qC62 : List Instr := [.aload 0, .getfield 198, .ifCond .ne 5, .iconst (-103), .ireturn, .aload 0, .getfield 194, .aload 0, .getfield 195, .invokevirtual 6946, .aload 0, .getfield 194, .getfield 132, .ireturn]
/-- 63: X4 count(I)I -/
def qR63 : List (Nat × Instr × Nat) := [(0, .iload_n 1, 1), (1, .tableswitch 142 0 9 #[55, 63, 75, 86, 97, 108, 116, 124, 132, 137], 55), (56, .aload_n 0, 1), (57, .getfield 19, 3), (60, .getfield 71, 3), (63, .ireturn, 1), (64, .aload_n 0, 1), (65, .getfield 26, 3), (68, .aload_n 0, 1), (69, .getfield 19, 3), (72, .invokevirtual 171, 3), (75, .ireturn, 1), (76, .aload_n 0, 1), (77, .getfield 26, 3), (80, .getfield 163, 3), (83, .invokestatic 166, 3), (86, .ireturn, 1), (87, .aload_n 0, 1), (88, .getfield 26, 3), (91, .getfield 178, 3), (94, .invokestatic 166, 3), (97, .ireturn, 1), (98, .aload_n 0, 1), (99, .getfield 26, 3), (102, .getfield 181, 3), (105, .invokestatic 166, 3), (108, .ireturn, 1), (109, .aload_n 0, 1), (110, .getfield 26, 3), (113, .getfield 175, 3), (116, .ireturn, 1), (117, .aload_n 0, 1), (118, .getfield 26, 3), (121, .getfield 141, 3), (124, .ireturn, 1), (125, .aload_n 0, 1), (126, .getfield 10, 3), (129, .getfield 40, 3), (132, .ireturn, 1), (133, .aload_n 0, 1), (134, .getfield 68, 3), (137, .ireturn, 1), (138, .aload_n 0, 1), (139, .getfield 131, 3), (142, .ireturn, 1), (143, .bipush (-102), 2), (145, .ireturn, 1)]
def qC63 : List Instr := [.iload 1, .lookupswitch 45 #[(0, 2), (1, 6), (2, 12), (3, 17), (4, 22), (5, 27), (6, 31), (7, 35), (8, 39), (9, 42)], .aload 0, .getfield 193, .getfield 0, .ireturn, .aload 0, .getfield 194, .aload 0, .getfield 193, .invokevirtual 8994, .ireturn, .aload 0, .getfield 194, .getfield 129, .invokestatic 2161, .ireturn, .aload 0, .getfield 194, .getfield 130, .invokestatic 2161, .ireturn, .aload 0, .getfield 194, .getfield 131, .invokestatic 2161, .ireturn, .aload 0, .getfield 194, .getfield 132, .ireturn, .aload 0, .getfield 194, .getfield 135, .ireturn, .aload 0, .getfield 192, .getfield 65, .ireturn, .aload 0, .getfield 199, .ireturn, .aload 0, .getfield 200, .ireturn, .iconst (-102), .ireturn]
/-- 64: X4 digest()J -/
def qR64 : List (Nat × Instr × Nat) := [(0, .ldc2_w 184, 3), (3, .lstore_n 1, 1), (4, .iconst 0, 1), (5, .istore_n 3, 1), (6, .iload_n 3, 1), (7, .aload_n 0, 1), (8, .getfield 19, 3), (11, .getfield 71, 3), (14, .if_icmp .ge 16, 3), (17, .aload_n 0, 1), (18, .lload_n 1, 1), (19, .iload_n 3, 1), (20, .invokevirtual 186, 3), (23, .lstore_n 1, 1), (24, .iinc 3 1, 3), (27, .goto (-21), 3), (30, .aload_n 0, 1), (31, .getfield 19, 3), (34, .getfield 71, 3), (37, .ifCond .le 23, 3), (40, .iconst 0, 1), (41, .istore_n 3, 1), (42, .iload_n 3, 1), (43, .iconst 4, 1), (44, .if_icmp .ge 16, 3), (47, .aload_n 0, 1), (48, .lload_n 1, 1), (49, .iload_n 3, 1), (50, .invokevirtual 190, 3), (53, .lstore_n 1, 1), (54, .iinc 3 1, 3), (57, .goto (-15), 3), (60, .iconst 0, 1), (61, .istore_n 3, 1), (62, .iload_n 3, 1), (63, .aload_n 0, 1), (64, .getfield 10, 3), (67, .getfield 40, 3), (70, .if_icmp .ge 25, 3), (73, .ldc2_w 193, 3), (76, .lload_n 1, 1), (77, .lmul, 1), (78, .aload_n 0, 1), (79, .getfield 10, 3), (82, .iload_n 3, 1), (83, .invokevirtual 195, 3), (86, .i2l, 1), (87, .ladd, 1), (88, .lstore_n 1, 1), (89, .iinc 3 1, 3), (92, .goto (-30), 3), (95, .iconst 0, 1), (96, .istore_n 3, 1), (97, .iload_n 3, 1), (98, .bipush 10, 2), (100, .if_icmp .ge 22, 3), (103, .ldc2_w 193, 3), (106, .lload_n 1, 1), (107, .lmul, 1), (108, .aload_n 0, 1), (109, .iload_n 3, 1), (110, .invokevirtual 198, 3), (113, .i2l, 1), (114, .ladd, 1), (115, .lstore_n 1, 1), (116, .iinc 3 1, 3), (119, .goto (-22), 3), (122, .lload_n 1, 1), (123, .lreturn, 1)]
def qC64 : List Instr := [.jsr 991, .lstore 1, .iconst 0, .istore 3, .iload 3, .aload 0, .getfield 193, .getfield 0, .if_icmp .ge 16, .aload 0, .lload 1, .iload 3, .invokevirtual 16691, .lstore 1, .iinc 3 1, .goto 4, .aload 0, .getfield 193, .getfield 0, .ifCond .le 32, .iconst 0, .istore 3, .iload 3, .iconst 4, .if_icmp .ge 32, .aload 0, .lload 1, .iload 3, .invokevirtual 16947, .lstore 1, .iinc 3 1, .goto 22, .iconst 0, .istore 3, .iload 3, .aload 0, .getfield 192, .getfield 65, .if_icmp .ge 51, .jsr 31, .lload 1, .lmul, .aload 0, .getfield 192, .iload 3, .invokevirtual 801, .i2l, .ladd, .lstore 1, .iinc 3 1, .goto 34, .iconst 0, .istore 3, .iload 3, .iconst 10, .if_icmp .ge 67, .jsr 31, .lload 1, .lmul, .aload 0, .iload 3, .invokevirtual 16163, .i2l, .ladd, .lstore 1, .iinc 3 1, .goto 53, .lload 1, .lreturn]
/-- 65: X4 digestPerson(JI)J -/
def qR65 : List (Nat × Instr × Nat) := [(0, .lload_n 1, 1), (1, .lstore 4, 2), (3, .iconst 0, 1), (4, .istore 6, 2), (6, .iload 6, 2), (8, .bipush 8, 2), (10, .if_icmp .ge 26, 3), (13, .ldc2_w 193, 3), (16, .lload 4, 2), (18, .lmul, 1), (19, .aload_n 0, 1), (20, .iload_n 3, 1), (21, .iload 6, 2), (23, .invokevirtual 201, 3), (26, .i2l, 1), (27, .ladd, 1), (28, .lstore 4, 2), (30, .iinc 6 1, 3), (33, .goto (-27), 3), (36, .iconst 0, 1), (37, .istore 6, 2), (39, .iload 6, 2), (41, .aload_n 0, 1), (42, .getfield 19, 3), (45, .getfield 71, 3), (48, .if_icmp .ge 39, 3), (51, .iload 6, 2), (53, .iload_n 3, 1), (54, .if_icmp .eq 27, 3), (57, .ldc2_w 193, 3), (60, .lload 4, 2), (62, .lmul, 1), (63, .aload_n 0, 1), (64, .getfield 26, 3), (67, .aload_n 0, 1), (68, .getfield 19, 3), (71, .iload_n 3, 1), (72, .iload 6, 2), (74, .invokevirtual 137, 3), (77, .i2l, 1), (78, .ladd, 1), (79, .lstore 4, 2), (81, .iinc 6 1, 3), (84, .goto (-45), 3), (87, .lload 4, 2), (89, .lreturn, 1)]
def qC65 : List Instr := [.lload 1, .lstore 4, .iconst 0, .istore 6, .iload 6, .iconst 8, .if_icmp .ge 19, .jsr 31, .lload 4, .lmul, .aload 0, .iload 3, .iload 6, .invokevirtual 12595, .i2l, .ladd, .lstore 4, .iinc 6 1, .goto 4, .iconst 0, .istore 6, .iload 6, .aload 0, .getfield 193, .getfield 0, .if_icmp .ge 44, .iload 6, .iload 3, .if_icmp .eq 42, .jsr 31, .lload 4, .lmul, .aload 0, .getfield 194, .aload 0, .getfield 193, .iload 3, .iload 6, .invokevirtual 10306, .i2l, .ladd, .lstore 4, .iinc 6 1, .goto 21, .lload 4, .lreturn]
/-- 66: X4 digestSign(JI)J -/
def qR66 : List (Nat × Instr × Nat) := [(0, .ldc2_w 193, 3), (3, .lload_n 1, 1), (4, .lmul, 1), (5, .aload_n 0, 1), (6, .iload_n 3, 1), (7, .invokevirtual 204, 3), (10, .i2l, 1), (11, .ladd, 1), (12, .lstore 4, 2), (14, .ldc2_w 193, 3), (17, .lload 4, 2), (19, .lmul, 1), (20, .aload_n 0, 1), (21, .getfield 26, 3), (24, .iload_n 3, 1), (25, .invokevirtual 113, 3), (28, .ifCond .eq 7, 3), (31, .iconst 1, 1), (32, .goto 4, 3), (35, .iconst 0, 1), (36, .i2l, 1), (37, .ladd, 1), (38, .lstore 4, 2), (40, .ldc2_w 193, 3), (43, .lload 4, 2), (45, .lmul, 1), (46, .aload_n 0, 1), (47, .iload_n 3, 1), (48, .invokevirtual 207, 3), (51, .i2l, 1), (52, .ladd, 1), (53, .lstore 4, 2), (55, .ldc2_w 193, 3), (58, .lload 4, 2), (60, .lmul, 1), (61, .aload_n 0, 1), (62, .iload_n 3, 1), (63, .invokevirtual 210, 3), (66, .i2l, 1), (67, .ladd, 1), (68, .lreturn, 1)]
def qC66 : List Instr := [.jsr 31, .lload 1, .lmul, .aload 0, .iload 3, .invokevirtual 13091, .i2l, .ladd, .lstore 4, .jsr 31, .lload 4, .lmul, .aload 0, .getfield 194, .iload 3, .invokevirtual 8226, .ifCond .eq 19, .iconst 1, .goto 20, .iconst 0, .i2l, .ladd, .lstore 4, .jsr 31, .lload 4, .lmul, .aload 0, .iload 3, .invokevirtual 14883, .i2l, .ladd, .lstore 4, .jsr 31, .lload 4, .lmul, .aload 0, .iload 3, .invokevirtual 15139, .i2l, .ladd, .lreturn]
/-- 67: X4 fewestWords(I)I -/
def qR67 : List (Nat × Instr × Nat) := [(0, .aload_n 0, 1), (1, .getfield 33, 3), (4, .aload_n 0, 1), (5, .getfield 26, 3), (8, .invokevirtual 156, 3), (11, .iconst 0, 1), (12, .istore_n 2, 1), (13, .iload_n 2, 1), (14, .iconst 3, 1), (15, .if_icmp .gt 32, 3), (18, .aload_n 0, 1), (19, .getfield 19, 3), (22, .aload_n 0, 1), (23, .getfield 33, 3), (26, .aload_n 0, 1), (27, .getfield 36, 3), (30, .iload_n 1, 1), (31, .iconst 0, 1), (32, .iload_n 2, 1), (33, .invokestatic 213, 3), (36, .ifCond .eq 5, 3), (39, .iload_n 2, 1), (40, .ireturn, 1), (41, .iinc 2 1, 3), (44, .goto (-31), 3), (47, .iconst (-1), 1), (48, .ireturn, 1)]
def qC67 : List Instr := [.aload 0, .getfield 196, .aload 0, .getfield 194, .invokevirtual 6946, .iconst 0, .istore 2, .iload 2, .iconst 3, .if_icmp .gt 25, .aload 0, .getfield 193, .aload 0, .getfield 196, .aload 0, .getfield 197, .iload 1, .iconst 0, .iload 2, .invokestatic 1094, .ifCond .eq 23, .iload 2, .ireturn, .iinc 2 1, .goto 7, .iconst (-1), .ireturn]
/-- 68: X4 findsWords(LUnsaidHorse$Court;LUnsaidHorse$Scene;[IIII)Z -/
def qR68 : List (Nat × Instr × Nat) := [(0, .iload 4, 2), (2, .ifCond .lt 17, 3), (5, .iload 4, 2), (7, .iload 5, 2), (9, .if_icmp .ge 10, 3), (12, .iload 4, 2), (14, .aload_n 2, 1), (15, .arraylength, 1), (16, .if_icmp .lt 14, 3), (19, .aload_n 0, 1), (20, .iload_n 3, 1), (21, .aload_n 1, 1), (22, .iload_n 3, 1), (23, .invokevirtual 78, 3), (26, .invokevirtual 91, 3), (29, .ireturn, 1), (30, .iload 4, 2), (32, .iload 5, 2), (34, .iconst 1, 1), (35, .isub, 1), (36, .if_icmp .ne 7, 3), (39, .iconst 1, 1), (40, .goto 4, 3), (43, .iconst 0, 1), (44, .istore 6, 2), (46, .iconst 0, 1), (47, .istore 7, 2), (49, .iload 7, 2), (51, .bipush 16, 2), (53, .aload_n 0, 1), (54, .getfield 71, 3), (57, .imul, 1), (58, .if_icmp .ge 127, 3), (61, .iload 7, 2), (63, .iconst 4, 1), (64, .ishr, 1), (65, .istore 8, 2), (67, .iload 7, 2), (69, .iconst 2, 1), (70, .ishr, 1), (71, .iconst 3, 1), (72, .iand, 1), (73, .istore 9, 2), (75, .iload 7, 2), (77, .iconst 3, 1), (78, .iand, 1), (79, .istore 10, 2), (81, .iload 6, 2), (83, .ifCond .eq 9, 3), (86, .iload 9, 2), (88, .iload_n 3, 1), (89, .if_icmp .ne 90, 3), (92, .aload_n 0, 1), (93, .iload 9, 2), (95, .invokevirtual 74, 3), (98, .ifCond .eq 81, 3), (101, .aload_n 1, 1), (102, .iload 8, 2), (104, .iload 9, 2), (106, .iload 10, 2), (108, .invokevirtual 123, 3), (111, .ifCond .eq 68, 3), (114, .aload_n 1, 1), (115, .aload_n 0, 1), (116, .iload 8, 2), (118, .iload 9, 2), (120, .iload 10, 2), (122, .invokevirtual 217, 3), (125, .ifCond .eq 6, 3), (128, .goto 51, 3), (131, .aload_n 2, 1), (132, .iload 4, 2), (134, .iload 7, 2), (136, .iastore, 1), (137, .aload_n 1, 1), (138, .getfield 221, 3), (141, .istore 11, 2), (143, .aload_n 1, 1), (144, .iload 9, 2), (146, .iload 10, 2), (148, .invokevirtual 224, 3), (151, .aload_n 0, 1), (152, .aload_n 1, 1), (153, .aload_n 2, 1), (154, .iload_n 3, 1), (155, .iload 4, 2), (157, .iconst 1, 1), (158, .iadd, 1), (159, .iload 5, 2), (161, .invokestatic 213, 3), (164, .istore 12, 2), (166, .aload_n 1, 1), (167, .iload 11, 2), (169, .putfield 221, 3), (172, .iload 12, 2), (174, .ifCond .eq 5, 3), (177, .iconst 1, 1), (178, .ireturn, 1), (179, .iinc 7 1, 3), (182, .goto (-133), 3), (185, .iconst 0, 1), (186, .ireturn, 1)]
def qC68 : List Instr := [.iload 4, .ifCond .lt 9, .iload 4, .iload 5, .if_icmp .ge 9, .iload 4, .aload 2, .arraylength, .if_icmp .lt 16, .aload 0, .iload 3, .aload 1, .iload 3, .invokevirtual 7202, .invokevirtual 6192, .ireturn, .iload 4, .iload 5, .iconst 1, .isub, .if_icmp .ne 23, .iconst 1, .goto 24, .iconst 0, .istore 6, .iconst 0, .istore 7, .iload 7, .iconst 16, .aload 0, .getfield 0, .imul, .if_icmp .ge 100, .iload 7, .iconst 4, .ishr, .istore 8, .iload 7, .iconst 2, .ishr, .iconst 3, .iand, .istore 9, .iload 7, .iconst 3, .iand, .istore 10, .iload 6, .ifCond .eq 52, .iload 9, .iload 3, .if_icmp .ne 98, .aload 0, .iload 9, .invokevirtual 3872, .ifCond .eq 98, .aload 1, .iload 8, .iload 9, .iload 10, .invokevirtual 9538, .ifCond .eq 98, .aload 1, .aload 0, .iload 8, .iload 9, .iload 10, .invokevirtual 10066, .ifCond .eq 70, .goto 98, .aload 2, .iload 4, .iload 7, .iastore, .aload 1, .getfield 128, .istore 11, .aload 1, .iload 9, .iload 10, .invokevirtual 9266, .aload 0, .aload 1, .aload 2, .iload 3, .iload 4, .iconst 1, .iadd, .iload 5, .invokestatic 1094, .istore 12, .aload 1, .iload 11, .putfield 128, .iload 12, .ifCond .eq 98, .iconst 1, .ireturn, .iinc 7 1, .goto 27, .iconst 0, .ireturn]
/-- 69: X4 bestQuestion(II)I -/
def qR69 : List (Nat × Instr × Nat) := [(0, .iconst (-1), 1), (1, .istore_n 3, 1), (2, .bipush 10, 2), (4, .istore 4, 2), (6, .iconst 0, 1), (7, .istore 5, 2), (9, .iload 5, 2), (11, .bipush 16, 2), (13, .aload_n 0, 1), (14, .getfield 19, 3), (17, .getfield 71, 3), (20, .imul, 1), (21, .if_icmp .ge 75, 3), (24, .iload 5, 2), (26, .iconst 1, 1), (27, .iload_n 1, 1), (28, .ishl, 1), (29, .iand, 1), (30, .ifCond .ne 6, 3), (33, .goto 57, 3), (36, .aload_n 0, 1), (37, .getfield 19, 3), (40, .iload 5, 2), (42, .iconst 4, 1), (43, .ishr, 1), (44, .iload 5, 2), (46, .bipush 15, 2), (48, .iand, 1), (49, .iload_n 1, 1), (50, .invokevirtual 228, 3), (53, .istore 6, 2), (55, .iload_n 2, 1), (56, .iload 6, 2), (58, .iand, 1), (59, .invokestatic 166, 3), (62, .iload_n 2, 1), (63, .iload 6, 2), (65, .iconst (-1), 1), (66, .ixor, 1), (67, .iand, 1), (68, .invokestatic 166, 3), (71, .invokestatic 232, 3), (74, .istore 7, 2), (76, .iload 7, 2), (78, .iload 4, 2), (80, .if_icmp .ge 10, 3), (83, .iload 7, 2), (85, .istore 4, 2), (87, .iload 5, 2), (89, .istore_n 3, 1), (90, .iinc 5 1, 3), (93, .goto (-84), 3), (96, .iload_n 3, 1), (97, .ireturn, 1)]
def qC69 : List Instr := [.iconst (-1), .istore 3, .iconst 10, .istore 4, .iconst 0, .istore 5, .iload 5, .iconst 16, .aload 0, .getfield 193, .getfield 0, .imul, .if_icmp .ge 52, .iload 5, .iconst 1, .iload 1, .ishl, .iand, .ifCond .ne 20, .goto 50, .aload 0, .getfield 193, .iload 5, .iconst 4, .ishr, .iload 5, .iconst 15, .iand, .iload 1, .invokevirtual 6464, .istore 6, .iload 2, .iload 6, .iand, .invokestatic 2161, .iload 2, .iload 6, .iconst (-1), .ixor, .iand, .invokestatic 2161, .fadd, .istore 7, .iload 7, .iload 4, .if_icmp .ge 50, .iload 7, .istore 4, .iload 5, .istore 3, .iinc 5 1, .goto 6, .iload 3, .ireturn]
/-- 70: X4 holdAudiences(II)I -/
def qR70 : List (Nat × Instr × Nat) := [(0, .iload_n 2, 1), (1, .istore_n 3, 1), (2, .iconst 0, 1), (3, .istore 4, 2), (5, .iload 4, 2), (7, .iload_n 1, 1), (8, .if_icmp .ge 91, 3), (11, .iload_n 3, 1), (12, .invokestatic 237, 3), (15, .istore_n 3, 1), (16, .iload_n 3, 1), (17, .aload_n 0, 1), (18, .getfield 19, 3), (21, .getfield 71, 3), (24, .invokestatic 240, 3), (27, .istore 5, 2), (29, .iload_n 3, 1), (30, .invokestatic 237, 3), (33, .istore_n 3, 1), (34, .iload_n 3, 1), (35, .aload_n 0, 1), (36, .getfield 19, 3), (39, .getfield 71, 3), (42, .invokestatic 240, 3), (45, .istore 6, 2), (47, .iload_n 3, 1), (48, .invokestatic 237, 3), (51, .istore_n 3, 1), (52, .iload_n 3, 1), (53, .iconst 4, 1), (54, .invokestatic 240, 3), (57, .istore 7, 2), (59, .aload_n 0, 1), (60, .getfield 33, 3), (63, .iload 5, 2), (65, .iload 6, 2), (67, .iload 7, 2), (69, .invokevirtual 123, 3), (72, .ifCond .eq 21, 3), (75, .aload_n 0, 1), (76, .getfield 33, 3), (79, .aload_n 0, 1), (80, .getfield 19, 3), (83, .iload 5, 2), (85, .iload 6, 2), (87, .iload 7, 2), (89, .invokevirtual 127, 3), (92, .pop, 1), (93, .iinc 4 1, 3), (96, .goto (-91), 3), (99, .iload_n 3, 1), (100, .ireturn, 1)]
def qC70 : List Instr := [.iload 2, .istore 3, .iconst 0, .istore 4, .iload 4, .iload 1, .if_icmp .ge 50, .iload 3, .invokestatic 1137, .istore 3, .iload 3, .aload 0, .getfield 193, .getfield 0, .invokestatic 1154, .istore 5, .iload 3, .invokestatic 1137, .istore 3, .iload 3, .aload 0, .getfield 193, .getfield 0, .invokestatic 1154, .istore 6, .iload 3, .invokestatic 1137, .istore 3, .iload 3, .iconst 4, .invokestatic 1154, .istore 7, .aload 0, .getfield 196, .iload 5, .iload 6, .iload 7, .invokevirtual 9538, .ifCond .eq 48, .aload 0, .getfield 196, .aload 0, .getfield 193, .iload 5, .iload 6, .iload 7, .invokevirtual 10578, .pop, .iinc 4 1, .goto 4, .iload 3, .ireturn]
/-- 71: X4 nextSeed(I)I -/
def qR71 : List (Nat × Instr × Nat) := [(0, .ldc2_w 243, 3), (3, .iload_n 0, 1), (4, .i2l, 1), (5, .lmul, 1), (6, .ldc2_w 245, 3), (9, .ladd, 1), (10, .ldc2_w 247, 3), (13, .lrem, 1), (14, .l2i, 1), (15, .ireturn, 1)]
def qC71 : List Instr := [.jsr 1103515245, .iload 0, .i2l, .lmul, .jsr 12345, .ladd, .jsr 2147483648, .lrem, .l2i, .ireturn]
/-- 72: X4 drawn(II)I -/
def qR72 : List (Nat × Instr × Nat) := [(0, .iload_n 1, 1), (1, .ifCond .le 12, 3), (4, .iload_n 0, 1), (5, .ldc 249, 2), (7, .idiv, 1), (8, .iload_n 1, 1), (9, .irem, 1), (10, .goto 4, 3), (13, .iconst 0, 1), (14, .ireturn, 1)]
def qC72 : List Instr := [.iload 1, .ifCond .le 8, .iload 0, .iconst 65536, .idiv, .iload 1, .irem, .goto 9, .iconst 0, .ireturn]
/-- 73: X5 within(III)Z -/
def qR73 : List (Nat × Instr × Nat) := [(0, .iload_n 0, 1), (1, .iload_n 1, 1), (2, .if_icmp .lt 12, 3), (5, .iload_n 0, 1), (6, .iload_n 2, 1), (7, .if_icmp .gt 7, 3), (10, .iconst 1, 1), (11, .goto 4, 3), (14, .iconst 0, 1), (15, .ireturn, 1)]
def qC73 : List Instr := [.iload 0, .iload 1, .if_icmp .lt 8, .iload 0, .iload 2, .if_icmp .gt 8, .iconst 1, .goto 9, .iconst 0, .ireturn]
/-- 74: X5 isIn(II)Z -/
def qR74 : List (Nat × Instr × Nat) := [(0, .iload_n 0, 1), (1, .iload_n 1, 1), (2, .ishr, 1), (3, .iconst 1, 1), (4, .iand, 1), (5, .iconst 1, 1), (6, .if_icmp .ne 7, 3), (9, .iconst 1, 1), (10, .goto 4, 3), (13, .iconst 0, 1), (14, .ireturn, 1)]
def qC74 : List Instr := [.iload 0, .iload 1, .ishr, .iconst 1, .iand, .iconst 1, .if_icmp .ne 9, .iconst 1, .goto 10, .iconst 0, .ireturn]
/-- 75: X5 size(I)I -/
def qR75 : List (Nat × Instr × Nat) := [(0, .iconst 0, 1), (1, .istore_n 1, 1), (2, .iconst 0, 1), (3, .istore_n 2, 1), (4, .iload_n 2, 1), (5, .iconst 4, 1), (6, .if_icmp .ge 17, 3), (9, .iload_n 1, 1), (10, .iload_n 0, 1), (11, .iload_n 2, 1), (12, .ishr, 1), (13, .iconst 1, 1), (14, .iand, 1), (15, .iadd, 1), (16, .istore_n 1, 1), (17, .iinc 2 1, 3), (20, .goto (-16), 3), (23, .iload_n 1, 1), (24, .ireturn, 1)]
def qC75 : List Instr := [.iconst 0, .istore 1, .iconst 0, .istore 2, .iload 2, .iconst 4, .if_icmp .ge 17, .iload 1, .iload 0, .iload 2, .ishr, .iconst 1, .iand, .iadd, .istore 1, .iinc 2 1, .goto 4, .iload 1, .ireturn]
/-- 76: X5 letter(I)I -/
def qR76 : List (Nat × Instr × Nat) := [(0, .iload_n 1, 1), (1, .bipush 32, 2), (3, .bipush 126, 2), (5, .invokestatic 56, 3), (8, .ifCond .ne 6, 3), (11, .bipush (-102), 2), (13, .ireturn, 1), (14, .aload_n 0, 1), (15, .getfield 60, 3), (18, .bipush 22, 2), (20, .if_icmp .ne 6, 3), (23, .bipush (-104), 2), (25, .ireturn, 1), (26, .aload_n 0, 1), (27, .getfield 34, 3), (30, .aload_n 0, 1), (31, .getfield 60, 3), (34, .iload_n 1, 1), (35, .i2b, 1), (36, .bastore, 1), (37, .aload_n 0, 1), (38, .dup, 1), (39, .getfield 60, 3), (42, .iconst 1, 1), (43, .iadd, 1), (44, .putfield 60, 3), (47, .aload_n 0, 1), (48, .getfield 60, 3), (51, .ireturn, 1)]
def qC76 : List Instr := [.iload 1, .iconst 32, .iconst 126, .invokestatic 1171, .ifCond .ne 7, .iconst (-102), .ireturn, .aload 0, .getfield 272, .iconst 22, .if_icmp .ne 13, .iconst (-104), .ireturn, .aload 0, .getfield 273, .aload 0, .getfield 272, .iload 1, .i2b, .bastore, .aload 0, .dup, .getfield 272, .iconst 1, .iadd, .putfield 272, .aload 0, .getfield 272, .ireturn]
/-- 77: X5 blank()I -/
def qR77 : List (Nat × Instr × Nat) := [(0, .aload_n 0, 1), (1, .getfield 60, 3), (4, .istore_n 1, 1), (5, .aload_n 0, 1), (6, .iconst 0, 1), (7, .putfield 60, 3), (10, .iload_n 1, 1), (11, .ireturn, 1)]
def qC77 : List Instr := [.aload 0, .getfield 272, .istore 1, .aload 0, .iconst 0, .putfield 272, .iload 1, .ireturn]
/-- 78: X5 kindBy(I)I -/
def qR78 : List (Nat × Instr × Nat) := [(0, .iload_n 0, 1), (1, .tableswitch 85 99 113 #[79, 85, 85, 85, 85, 85, 85, 85, 77, 85, 75, 81, 85, 85, 83], 75), (76, .iconst 0, 1), (77, .ireturn, 1), (78, .iconst 1, 1), (79, .ireturn, 1), (80, .iconst 2, 1), (81, .ireturn, 1), (82, .iconst 3, 1), (83, .ireturn, 1), (84, .iconst 4, 1), (85, .ireturn, 1), (86, .iconst (-1), 1), (87, .ireturn, 1)]
def qC78 : List Instr := [.iload 0, .lookupswitch 12 #[(99, 6), (100, 12), (101, 12), (102, 12), (103, 12), (104, 12), (105, 12), (106, 12), (107, 4), (108, 12), (109, 2), (110, 8), (111, 12), (112, 12), (113, 10)], .iconst 0, .ireturn, .iconst 1, .ireturn, .iconst 2, .ireturn, .iconst 3, .ireturn, .iconst 4, .ireturn, .iconst (-1), .ireturn]
/-- 79: X5 isFigure(III)Z -/
def qR79 : List (Nat × Instr × Nat) := [(0, .iload_n 1, 1), (1, .aload_n 0, 1), (2, .getfield 60, 3), (5, .if_icmp .ge 24, 3), (8, .aload_n 0, 1), (9, .getfield 34, 3), (12, .iload_n 1, 1), (13, .baload, 1), (14, .bipush 48, 2), (16, .isub, 1), (17, .iload_n 2, 1), (18, .iload_n 3, 1), (19, .invokestatic 56, 3), (22, .ifCond .eq 7, 3), (25, .iconst 1, 1), (26, .goto 4, 3), (29, .iconst 0, 1), (30, .ireturn, 1)]
def qC79 : List Instr := [.iload 1, .aload 0, .getfield 272, .if_icmp .ge 16, .aload 0, .getfield 273, .iload 1, .baload, .iconst 48, .isub, .iload 2, .iload 3, .invokestatic 1171, .ifCond .eq 16, .iconst 1, .goto 17, .iconst 0, .ireturn]
/-- 80: X5 readOne(I)I -/
def qR80 : List (Nat × Instr × Nat) := [(0, .iload_n 1, 1), (1, .aload_n 0, 1), (2, .getfield 60, 3), (5, .if_icmp .eq 16, 3), (8, .aload_n 0, 1), (9, .getfield 34, 3), (12, .iload_n 1, 1), (13, .baload, 1), (14, .invokestatic 64, 3), (17, .iconst (-1), 1), (18, .if_icmp .ne 5, 3), (21, .iload_n 1, 1), (22, .ireturn, 1), (23, .aload_n 0, 1), (24, .iload_n 1, 1), (25, .iconst 1, 1), (26, .iadd, 1), (27, .iconst 1, 1), (28, .bipush 9, 2), (30, .invokevirtual 68, 3), (33, .ifCond .ne 9, 3), (36, .iload_n 1, 1), (37, .iconst 1, 1), (38, .iadd, 1), (39, .goto 24, 3), (42, .aload_n 0, 1), (43, .iload_n 1, 1), (44, .iconst 2, 1), (45, .iadd, 1), (46, .iconst 0, 1), (47, .iconst 4, 1), (48, .invokevirtual 68, 3), (51, .ifCond .ne 9, 3), (54, .iload_n 1, 1), (55, .iconst 2, 1), (56, .iadd, 1), (57, .goto 6, 3), (60, .iload_n 1, 1), (61, .iconst 3, 1), (62, .iadd, 1), (63, .ireturn, 1)]
def qC80 : List Instr := [.iload 1, .aload 0, .getfield 272, .if_icmp .eq 11, .aload 0, .getfield 273, .iload 1, .baload, .invokestatic 1249, .iconst (-1), .if_icmp .ne 13, .iload 1, .ireturn, .aload 0, .iload 1, .iconst 1, .iadd, .iconst 1, .iconst 9, .invokevirtual 20292, .ifCond .ne 25, .iload 1, .iconst 1, .iadd, .goto 40, .aload 0, .iload 1, .iconst 2, .iadd, .iconst 0, .iconst 4, .invokevirtual 20292, .ifCond .ne 37, .iload 1, .iconst 2, .iadd, .goto 40, .iload 1, .iconst 3, .iadd, .ireturn]
/-- 81: X5 readSigns(I)I -/
def qR81 : List (Nat × Instr × Nat) := [(0, .iload_n 1, 1), (1, .istore_n 2, 1), (2, .iload_n 2, 1), (3, .iload_n 1, 1), (4, .iconst 4, 1), (5, .iadd, 1), (6, .if_icmp .ge 20, 3), (9, .aload_n 0, 1), (10, .iload_n 2, 1), (11, .iconst 1, 1), (12, .bipush 9, 2), (14, .invokevirtual 68, 3), (17, .ifCond .eq 9, 3), (20, .iinc 2 1, 3), (23, .goto (-21), 3), (26, .aload_n 0, 1), (27, .iload_n 2, 1), (28, .iload_n 1, 1), (29, .iconst 4, 1), (30, .iadd, 1), (31, .if_icmp .ne 15, 3), (34, .iload_n 2, 1), (35, .aload_n 0, 1), (36, .getfield 60, 3), (39, .if_icmp .ne 7, 3), (42, .iconst 1, 1), (43, .goto 4, 3), (46, .iconst 0, 1), (47, .putfield 71, 3), (50, .iload_n 2, 1), (51, .ireturn, 1)]
def qC81 : List Instr := [.iload 1, .istore 2, .iload 2, .iload 1, .iconst 4, .iadd, .if_icmp .ge 15, .aload 0, .iload 2, .iconst 1, .iconst 9, .invokevirtual 20292, .ifCond .eq 15, .iinc 2 1, .goto 2, .aload 0, .iload 2, .iload 1, .iconst 4, .iadd, .if_icmp .ne 27, .iload 2, .aload 0, .getfield 272, .if_icmp .ne 27, .iconst 1, .goto 28, .iconst 0, .putfield 274, .iload 2, .ireturn]
/-- 82: X5 read()I -/
def qR82 : List (Nat × Instr × Nat) := [(0, .aload_n 0, 1), (1, .iconst 0, 1), (2, .putfield 71, 3), (5, .aload_n 0, 1), (6, .iconst 0, 1), (7, .putfield 75, 3), (10, .iconst 0, 1), (11, .istore_n 1, 1), (12, .aload_n 0, 1), (13, .getfield 75, 3), (16, .iconst 4, 1), (17, .if_icmp .ge 100, 3), (20, .aload_n 0, 1), (21, .iload_n 1, 1), (22, .invokevirtual 78, 3), (25, .istore_n 2, 1), (26, .iload_n 2, 1), (27, .iload_n 1, 1), (28, .iconst 3, 1), (29, .iadd, 1), (30, .if_icmp .eq 5, 3), (33, .iload_n 2, 1), (34, .ireturn, 1), (35, .aload_n 0, 1), (36, .dup, 1), (37, .getfield 75, 3), (40, .iconst 1, 1), (41, .iadd, 1), (42, .putfield 75, 3), (45, .iload_n 2, 1), (46, .istore_n 1, 1), (47, .iload_n 1, 1), (48, .aload_n 0, 1), (49, .getfield 60, 3), (52, .if_icmp .ge 30, 3), (55, .aload_n 0, 1), (56, .getfield 34, 3), (59, .iload_n 1, 1), (60, .baload, 1), (61, .bipush 59, 2), (63, .if_icmp .ne 19, 3), (66, .aload_n 0, 1), (67, .getfield 75, 3), (70, .iconst 1, 1), (71, .if_icmp .le 11, 3), (74, .aload_n 0, 1), (75, .iload_n 1, 1), (76, .iconst 1, 1), (77, .iadd, 1), (78, .invokevirtual 81, 3), (81, .ireturn, 1), (82, .iload_n 1, 1), (83, .aload_n 0, 1), (84, .getfield 60, 3), (87, .if_icmp .eq 22, 3), (90, .aload_n 0, 1), (91, .getfield 75, 3), (94, .iconst 4, 1), (95, .if_icmp .eq 14, 3), (98, .aload_n 0, 1), (99, .getfield 34, 3), (102, .iload_n 1, 1), (103, .baload, 1), (104, .bipush 44, 2), (106, .if_icmp .eq 5, 3), (109, .iload_n 1, 1), (110, .ireturn, 1), (111, .iinc 1 1, 3), (114, .goto (-102), 3), (117, .iload_n 1, 1), (118, .ireturn, 1)]
def qC82 : List Instr := [.aload 0, .iconst 0, .putfield 274, .aload 0, .iconst 0, .putfield 275, .iconst 0, .istore 1, .aload 0, .getfield 275, .iconst 4, .if_icmp .ge 69, .aload 0, .iload 1, .invokevirtual 20516, .istore 2, .iload 2, .iload 1, .iconst 3, .iadd, .if_icmp .eq 23, .iload 2, .ireturn, .aload 0, .dup, .getfield 275, .iconst 1, .iadd, .putfield 275, .iload 2, .istore 1, .iload 1, .aload 0, .getfield 272, .if_icmp .ge 51, .aload 0, .getfield 273, .iload 1, .baload, .iconst 59, .if_icmp .ne 51, .aload 0, .getfield 275, .iconst 1, .if_icmp .le 51, .aload 0, .iload 1, .iconst 1, .iadd, .invokevirtual 20772, .ireturn, .iload 1, .aload 0, .getfield 272, .if_icmp .eq 65, .aload 0, .getfield 275, .iconst 4, .if_icmp .eq 65, .aload 0, .getfield 273, .iload 1, .baload, .iconst 44, .if_icmp .eq 67, .iload 1, .ireturn, .iinc 1 1, .goto 8, .iload 1, .ireturn]
/-- 83: X5 fault()I -/
def qR83 : List (Nat × Instr × Nat) := [(0, .aload_n 0, 1), (1, .invokevirtual 84, 3), (4, .ireturn, 1)]
def qC83 : List Instr := [.aload 0, .invokevirtual 21012, .ireturn]
/-- 84: X5 court()I -/
def qR84 : List (Nat × Instr × Nat) := [(0, .aload_n 0, 1), (1, .invokevirtual 84, 3), (4, .istore_n 1, 1), (5, .aload_n 0, 1), (6, .getfield 71, 3), (9, .ifCond .ne 6, 3), (12, .bipush (-103), 2), (14, .ireturn, 1), (15, .aload_n 0, 1), (16, .aload_n 0, 1), (17, .getfield 75, 3), (20, .putfield 88, 3), (23, .iconst 0, 1), (24, .istore_n 2, 1), (25, .iload_n 2, 1), (26, .aload_n 0, 1), (27, .getfield 88, 3), (30, .if_icmp .ge 84, 3), (33, .aload_n 0, 1), (34, .getfield 7, 3), (37, .iload_n 2, 1), (38, .aload_n 0, 1), (39, .getfield 34, 3), (42, .iconst 4, 1), (43, .iload_n 2, 1), (44, .imul, 1), (45, .baload, 1), (46, .invokestatic 64, 3), (49, .iastore, 1), (50, .aload_n 0, 1), (51, .getfield 13, 3), (54, .iload_n 2, 1), (55, .aload_n 0, 1), (56, .getfield 34, 3), (59, .iconst 4, 1), (60, .iload_n 2, 1), (61, .imul, 1), (62, .iconst 1, 1), (63, .iadd, 1), (64, .baload, 1), (65, .bipush 48, 2), (67, .isub, 1), (68, .iastore, 1), (69, .aload_n 0, 1), (70, .getfield 34, 3), (73, .iconst 4, 1), (74, .iload_n 2, 1), (75, .imul, 1), (76, .iconst 2, 1), (77, .iadd, 1), (78, .baload, 1), (79, .bipush 48, 2), (81, .isub, 1), (82, .istore_n 3, 1), (83, .aload_n 0, 1), (84, .getfield 16, 3), (87, .iload_n 2, 1), (88, .iload_n 3, 1), (89, .iconst 4, 1), (90, .if_icmp .ne 7, 3), (93, .iconst 0, 1), (94, .goto 6, 3), (97, .iconst 1, 1), (98, .iload_n 3, 1), (99, .ishl, 1), (100, .iastore, 1), (101, .aload_n 0, 1), (102, .getfield 19, 3), (105, .iload_n 2, 1), (106, .iconst 0, 1), (107, .iastore, 1), (108, .iinc 2 1, 3), (111, .goto (-86), 3), (114, .iconst 0, 1), (115, .istore_n 2, 1), (116, .iload_n 2, 1), (117, .iconst 4, 1), (118, .if_icmp .ge 28, 3), (121, .aload_n 0, 1), (122, .getfield 22, 3), (125, .iload_n 2, 1), (126, .aload_n 0, 1), (127, .getfield 34, 3), (130, .iload_n 1, 1), (131, .iconst 4, 1), (132, .isub, 1), (133, .iload_n 2, 1), (134, .iadd, 1), (135, .baload, 1), (136, .bipush 48, 2), (138, .isub, 1), (139, .iastore, 1), (140, .iinc 2 1, 3), (143, .goto (-27), 3), (146, .aload_n 0, 1), (147, .dup, 1), (148, .getfield 91, 3), (151, .iconst 1, 1), (152, .iadd, 1), (153, .putfield 91, 3), (156, .aload_n 0, 1), (157, .iconst 0, 1), (158, .putfield 94, 3), (161, .aload_n 0, 1), (162, .iconst 0, 1), (163, .putfield 97, 3), (166, .aload_n 0, 1), (167, .iconst 0, 1), (168, .putfield 100, 3), (171, .aload_n 0, 1), (172, .iconst 0, 1), (173, .putfield 103, 3), (176, .aload_n 0, 1), (177, .iconst 0, 1), (178, .putfield 106, 3), (181, .aload_n 0, 1), (182, .iconst 0, 1), (183, .putfield 60, 3), (186, .aload_n 0, 1), (187, .getfield 88, 3), (190, .ireturn, 1)]
def qC84 : List Instr := [.aload 0, .invokevirtual 21012, .istore 1, .aload 0, .getfield 274, .ifCond .ne 8, .iconst (-103), .ireturn, .aload 0, .aload 0, .getfield 275, .putfield 257, .iconst 0, .istore 2, .iload 2, .aload 0, .getfield 257, .if_icmp .ge 73, .aload 0, .getfield 258, .iload 2, .aload 0, .getfield 273, .iconst 4, .iload 2, .imul, .baload, .invokestatic 1249, .iastore, .aload 0, .getfield 259, .iload 2, .aload 0, .getfield 273, .iconst 4, .iload 2, .imul, .iconst 1, .iadd, .baload, .iconst 48, .isub, .iastore, .aload 0, .getfield 273, .iconst 4, .iload 2, .imul, .iconst 2, .iadd, .baload, .iconst 48, .isub, .istore 3, .aload 0, .getfield 260, .iload 2, .iload 3, .iconst 4, .if_icmp .ne 62, .iconst 0, .goto 65, .iconst 1, .iload 3, .ishl, .iastore, .aload 0, .getfield 261, .iload 2, .iconst 0, .iastore, .iinc 2 1, .goto 14, .iconst 0, .istore 2, .iload 2, .iconst 4, .if_icmp .ge 94, .aload 0, .getfield 262, .iload 2, .aload 0, .getfield 273, .iload 1, .iconst 4, .isub, .iload 2, .iadd, .baload, .iconst 48, .isub, .iastore, .iinc 2 1, .goto 75, .aload 0, .dup, .getfield 256, .iconst 1, .iadd, .putfield 256, .aload 0, .iconst 0, .putfield 263, .aload 0, .iconst 0, .putfield 264, .aload 0, .iconst 0, .putfield 265, .aload 0, .iconst 0, .putfield 266, .aload 0, .iconst 0, .putfield 267, .aload 0, .iconst 0, .putfield 272, .aload 0, .getfield 257, .ireturn]
/-- 85: X5 isOne(I)Z -/
def qR85 : List (Nat × Instr × Nat) := [(0, .iload_n 1, 1), (1, .iconst 0, 1), (2, .aload_n 0, 1), (3, .getfield 88, 3), (6, .iconst 1, 1), (7, .isub, 1), (8, .invokestatic 56, 3), (11, .ireturn, 1)]
def qC85 : List Instr := [.iload 1, .iconst 0, .aload 0, .getfield 257, .iconst 1, .isub, .invokestatic 1171, .ireturn]
/-- 86: X5 isSign(I)Z -/
def qR86 : List (Nat × Instr × Nat) := [(0, .aload_n 0, 1), (1, .getfield 88, 3), (4, .ifCond .le 16, 3), (7, .iload_n 1, 1), (8, .iconst 0, 1), (9, .iconst 3, 1), (10, .invokestatic 56, 3), (13, .ifCond .eq 7, 3), (16, .iconst 1, 1), (17, .goto 4, 3), (20, .iconst 0, 1), (21, .ireturn, 1)]
def qC86 : List Instr := [.aload 0, .getfield 257, .ifCond .le 10, .iload 1, .iconst 0, .iconst 3, .invokestatic 1171, .ifCond .eq 10, .iconst 1, .goto 11, .iconst 0, .ireturn]
/-- 87: X5 isKing(I)Z -/
def qR87 : List (Nat × Instr × Nat) := [(0, .aload_n 0, 1), (1, .getfield 7, 3), (4, .iload_n 1, 1), (5, .iaload, 1), (6, .iconst 1, 1), (7, .if_icmp .eq 13, 3), (10, .aload_n 0, 1), (11, .getfield 7, 3), (14, .iload_n 1, 1), (15, .iaload, 1), (16, .iconst 4, 1), (17, .if_icmp .ne 7, 3), (20, .iconst 1, 1), (21, .goto 4, 3), (24, .iconst 0, 1), (25, .ireturn, 1)]
def qC87 : List Instr := [.aload 0, .getfield 258, .iload 1, .iaload, .iconst 1, .if_icmp .eq 12, .aload 0, .getfield 258, .iload 1, .iaload, .iconst 4, .if_icmp .ne 14, .iconst 1, .goto 15, .iconst 0, .ireturn]
/-- 88: X5 tellAll(I)I -/
def qR88 : List (Nat × Instr × Nat) := [(0, .iconst 0, 1), (1, .istore_n 2, 1), (2, .iconst 0, 1), (3, .istore_n 3, 1), (4, .iload_n 3, 1), (5, .iconst 4, 1), (6, .if_icmp .ge 30, 3), (9, .iload_n 2, 1), (10, .iload_n 1, 1), (11, .iload_n 3, 1), (12, .invokestatic 109, 3), (15, .ifCond .eq 12, 3), (18, .aload_n 0, 1), (19, .getfield 22, 3), (22, .iload_n 3, 1), (23, .iaload, 1), (24, .goto 4, 3), (27, .iconst 0, 1), (28, .iadd, 1), (29, .istore_n 2, 1), (30, .iinc 3 1, 3), (33, .goto (-29), 3), (36, .iload_n 2, 1), (37, .ireturn, 1)]
def qC88 : List Instr := [.iconst 0, .istore 2, .iconst 0, .istore 3, .iload 3, .iconst 4, .if_icmp .ge 22, .iload 2, .iload 1, .iload 3, .invokestatic 1186, .ifCond .eq 17, .aload 0, .getfield 262, .iload 3, .iaload, .goto 18, .iconst 0, .iadd, .istore 2, .iinc 3 1, .goto 4, .iload 2, .ireturn]
/-- 89: X5 isEnough(II)Z -/
def qR89 : List (Nat × Instr × Nat) := [(0, .aload_n 0, 1), (1, .getfield 13, 3), (4, .iload_n 1, 1), (5, .iaload, 1), (6, .istore_n 3, 1), (7, .iload_n 2, 1), (8, .aload_n 0, 1), (9, .getfield 7, 3), (12, .iload_n 1, 1), (13, .iaload, 1), (14, .iconst 2, 1), (15, .if_icmp .ne 11, 3), (18, .iload_n 3, 1), (19, .iconst 1, 1), (20, .iadd, 1), (21, .iconst 2, 1), (22, .idiv, 1), (23, .goto 20, 3), (26, .aload_n 0, 1), (27, .getfield 7, 3), (30, .iload_n 1, 1), (31, .iaload, 1), (32, .iconst 4, 1), (33, .if_icmp .ne 9, 3), (36, .iload_n 3, 1), (37, .iconst 2, 1), (38, .iadd, 1), (39, .goto 4, 3), (42, .iload_n 3, 1), (43, .if_icmp .lt 7, 3), (46, .iconst 1, 1), (47, .goto 4, 3), (50, .iconst 0, 1), (51, .ireturn, 1)]
def qC89 : List Instr := [.aload 0, .getfield 259, .iload 1, .iaload, .istore 3, .iload 2, .aload 0, .getfield 258, .iload 1, .iaload, .iconst 2, .if_icmp .ne 18, .iload 3, .iconst 1, .iadd, .iconst 2, .idiv, .goto 29, .aload 0, .getfield 258, .iload 1, .iaload, .iconst 4, .if_icmp .ne 28, .iload 3, .iconst 2, .iadd, .goto 29, .iload 3, .if_icmp .lt 32, .iconst 1, .goto 33, .iconst 0, .ireturn]
/-- 90: X5 infers(I)Z -/
def qR90 : List (Nat × Instr × Nat) := [(0, .aload_n 0, 1), (1, .iload_n 1, 1), (2, .aload_n 0, 1), (3, .aload_n 0, 1), (4, .getfield 16, 3), (7, .iload_n 1, 1), (8, .iaload, 1), (9, .invokevirtual 113, 3), (12, .invokevirtual 116, 3), (15, .ireturn, 1)]
def qC90 : List Instr := [.aload 0, .iload 1, .aload 0, .aload 0, .getfield 260, .iload 1, .iaload, .invokevirtual 22564, .invokevirtual 22836, .ireturn]
/-- 91: X5 oneNow(II)I -/
def qR91 : List (Nat × Instr × Nat) := [(0, .iload_n 2, 1), (1, .tableswitch 107 0 6 #[43, 50, 57, 64, 75, 89, 98], 43), (44, .aload_n 0, 1), (45, .getfield 7, 3), (48, .iload_n 1, 1), (49, .iaload, 1), (50, .ireturn, 1), (51, .aload_n 0, 1), (52, .getfield 13, 3), (55, .iload_n 1, 1), (56, .iaload, 1), (57, .ireturn, 1), (58, .aload_n 0, 1), (59, .getfield 16, 3), (62, .iload_n 1, 1), (63, .iaload, 1), (64, .ireturn, 1), (65, .aload_n 0, 1), (66, .aload_n 0, 1), (67, .getfield 16, 3), (70, .iload_n 1, 1), (71, .iaload, 1), (72, .invokevirtual 113, 3), (75, .ireturn, 1), (76, .aload_n 0, 1), (77, .iload_n 1, 1), (78, .invokevirtual 119, 3), (81, .ifCond .eq 7, 3), (84, .iconst 1, 1), (85, .goto 4, 3), (88, .iconst 0, 1), (89, .ireturn, 1), (90, .aload_n 0, 1), (91, .getfield 97, 3), (94, .iload_n 1, 1), (95, .ishr, 1), (96, .iconst 1, 1), (97, .iand, 1), (98, .ireturn, 1), (99, .aload_n 0, 1), (100, .getfield 100, 3), (103, .iload_n 1, 1), (104, .ishr, 1), (105, .iconst 1, 1), (106, .iand, 1), (107, .ireturn, 1), (108, .aload_n 0, 1), (109, .getfield 19, 3), (112, .iload_n 1, 1), (113, .iaload, 1), (114, .ireturn, 1)]
def qC91 : List Instr := [.iload 2, .lookupswitch 46 #[(0, 2), (1, 7), (2, 12), (3, 17), (4, 24), (5, 32), (6, 39)], .aload 0, .getfield 258, .iload 1, .iaload, .ireturn, .aload 0, .getfield 259, .iload 1, .iaload, .ireturn, .aload 0, .getfield 260, .iload 1, .iaload, .ireturn, .aload 0, .aload 0, .getfield 260, .iload 1, .iaload, .invokevirtual 22564, .ireturn, .aload 0, .iload 1, .invokevirtual 23076, .ifCond .eq 30, .iconst 1, .goto 31, .iconst 0, .ireturn, .aload 0, .getfield 264, .iload 1, .ishr, .iconst 1, .iand, .ireturn, .aload 0, .getfield 265, .iload 1, .ishr, .iconst 1, .iand, .ireturn, .aload 0, .getfield 261, .iload 1, .iaload, .ireturn]
/-- 92: X5 about(II)I -/
def qR92 : List (Nat × Instr × Nat) := [(0, .aload_n 0, 1), (1, .iload_n 1, 1), (2, .invokevirtual 123, 3), (5, .ifCond .ne 8, 3), (8, .bipush (-101), 2), (10, .goto 24, 3), (13, .iload_n 2, 1), (14, .iconst 0, 1), (15, .bipush 7, 2), (17, .invokestatic 56, 3), (20, .ifCond .eq 12, 3), (23, .aload_n 0, 1), (24, .iload_n 1, 1), (25, .iload_n 2, 1), (26, .invokevirtual 126, 3), (29, .goto 5, 3), (32, .bipush (-102), 2), (34, .ireturn, 1)]
def qC92 : List Instr := [.aload 0, .iload 1, .invokevirtual 21796, .ifCond .ne 6, .iconst (-101), .goto 17, .iload 2, .iconst 0, .iconst 7, .invokestatic 1171, .ifCond .eq 16, .aload 0, .iload 1, .iload 2, .invokevirtual 23348, .goto 17, .iconst (-102), .ireturn]
/-- 93: X5 as(II)I -/
def qR93 : List (Nat × Instr × Nat) := [(0, .aload_n 0, 1), (1, .iload_n 1, 1), (2, .invokevirtual 123, 3), (5, .ifCond .ne 6, 3), (8, .bipush (-101), 2), (10, .ireturn, 1), (11, .iload_n 2, 1), (12, .iconst 0, 1), (13, .iconst 4, 1), (14, .invokestatic 56, 3), (17, .ifCond .ne 6, 3), (20, .bipush (-102), 2), (22, .ireturn, 1), (23, .aload_n 0, 1), (24, .getfield 7, 3), (27, .iload_n 1, 1), (28, .iaload, 1), (29, .istore_n 3, 1), (30, .iload_n 2, 1), (31, .ifCond .eq 18, 3), (34, .iload_n 3, 1), (35, .iload_n 2, 1), (36, .if_icmp .eq 13, 3), (39, .iload_n 2, 1), (40, .iconst 1, 1), (41, .if_icmp .ne 12, 3), (44, .iload_n 3, 1), (45, .iconst 4, 1), (46, .if_icmp .ne 7, 3), (49, .iload_n 1, 1), (50, .goto 4, 3), (53, .iconst (-1), 1), (54, .ireturn, 1)]
def qC93 : List Instr := [.aload 0, .iload 1, .invokevirtual 21796, .ifCond .ne 6, .iconst (-101), .ireturn, .iload 2, .iconst 0, .iconst 4, .invokestatic 1171, .ifCond .ne 13, .iconst (-102), .ireturn, .aload 0, .getfield 258, .iload 1, .iaload, .istore 3, .iload 2, .ifCond .eq 29, .iload 3, .iload 2, .if_icmp .eq 29, .iload 2, .iconst 1, .if_icmp .ne 31, .iload 3, .iconst 4, .if_icmp .ne 31, .iload 1, .goto 32, .iconst (-1), .ireturn]
/-- 94: X5 sign(I)I -/
def qR94 : List (Nat × Instr × Nat) := [(0, .aload_n 0, 1), (1, .iload_n 1, 1), (2, .invokevirtual 130, 3), (5, .ifCond .eq 12, 3), (8, .aload_n 0, 1), (9, .getfield 22, 3), (12, .iload_n 1, 1), (13, .iaload, 1), (14, .goto 5, 3), (17, .bipush (-101), 2), (19, .ireturn, 1)]
def qC94 : List Instr := [.aload 0, .iload 1, .invokevirtual 22052, .ifCond .eq 9, .aload 0, .getfield 262, .iload 1, .iaload, .goto 10, .iconst (-101), .ireturn]
/-- 95: X5 forbid(IZ)I -/
def qR95 : List (Nat × Instr × Nat) := [(0, .aload_n 0, 1), (1, .iload_n 1, 1), (2, .invokevirtual 130, 3), (5, .ifCond .ne 6, 3), (8, .bipush (-101), 2), (10, .ireturn, 1), (11, .aload_n 0, 1), (12, .getfield 94, 3), (15, .iload_n 1, 1), (16, .ishr, 1), (17, .iconst 1, 1), (18, .iand, 1), (19, .istore_n 3, 1), (20, .aload_n 0, 1), (21, .iload_n 2, 1), (22, .ifCond .eq 14, 3), (25, .aload_n 0, 1), (26, .getfield 94, 3), (29, .iconst 1, 1), (30, .iload_n 1, 1), (31, .ishl, 1), (32, .ior, 1), (33, .goto 13, 3), (36, .aload_n 0, 1), (37, .getfield 94, 3), (40, .iconst 1, 1), (41, .iload_n 1, 1), (42, .ishl, 1), (43, .iconst (-1), 1), (44, .ixor, 1), (45, .iand, 1), (46, .putfield 94, 3), (49, .iload_n 3, 1), (50, .ireturn, 1)]
def qC95 : List Instr := [.aload 0, .iload 1, .invokevirtual 22052, .ifCond .ne 6, .iconst (-101), .ireturn, .aload 0, .getfield 263, .iload 1, .ishr, .iconst 1, .iand, .istore 3, .aload 0, .iload 2, .ifCond .eq 23, .aload 0, .getfield 263, .iconst 1, .iload 1, .ishl, .ior, .goto 31, .aload 0, .getfield 263, .iconst 1, .iload 1, .ishl, .iconst (-1), .ixor, .iand, .putfield 263, .iload 3, .ireturn]
/-- 96: X5 canTell(III)Z -/
def qR96 : List (Nat × Instr × Nat) := [(0, .iload_n 1, 1), (1, .iload_n 2, 1), (2, .if_icmp .eq 55, 3), (5, .aload_n 0, 1), (6, .getfield 97, 3), (9, .iload_n 1, 1), (10, .invokestatic 109, 3), (13, .ifCond .ne 44, 3), (16, .aload_n 0, 1), (17, .getfield 97, 3), (20, .iload_n 2, 1), (21, .invokestatic 109, 3), (24, .ifCond .ne 33, 3), (27, .aload_n 0, 1), (28, .getfield 16, 3), (31, .iload_n 1, 1), (32, .iaload, 1), (33, .iload_n 3, 1), (34, .invokestatic 109, 3), (37, .ifCond .eq 20, 3), (40, .aload_n 0, 1), (41, .getfield 16, 3), (44, .iload_n 2, 1), (45, .iaload, 1), (46, .iload_n 3, 1), (47, .invokestatic 109, 3), (50, .ifCond .ne 7, 3), (53, .iconst 1, 1), (54, .goto 4, 3), (57, .iconst 0, 1), (58, .ireturn, 1)]
def qC96 : List Instr := [.iload 1, .iload 2, .if_icmp .eq 29, .aload 0, .getfield 264, .iload 1, .invokestatic 1186, .ifCond .ne 29, .aload 0, .getfield 264, .iload 2, .invokestatic 1186, .ifCond .ne 29, .aload 0, .getfield 260, .iload 1, .iaload, .iload 3, .invokestatic 1186, .ifCond .eq 29, .aload 0, .getfield 260, .iload 2, .iaload, .iload 3, .invokestatic 1186, .ifCond .ne 29, .iconst 1, .goto 30, .iconst 0, .ireturn]
/-- 97: X5 isHanging(III)Z -/
def qR97 : List (Nat × Instr × Nat) := [(0, .aload_n 0, 1), (1, .getfield 94, 3), (4, .iload_n 3, 1), (5, .invokestatic 109, 3), (8, .ifCond .eq 27, 3), (11, .aload_n 0, 1), (12, .getfield 7, 3), (15, .iload_n 1, 1), (16, .iaload, 1), (17, .iconst 2, 1), (18, .if_icmp .eq 17, 3), (21, .aload_n 0, 1), (22, .getfield 7, 3), (25, .iload_n 1, 1), (26, .iaload, 1), (27, .iconst 3, 1), (28, .if_icmp .eq 7, 3), (31, .iconst 1, 1), (32, .goto 4, 3), (35, .iconst 0, 1), (36, .istore 4, 2), (38, .aload_n 0, 1), (39, .iload_n 2, 1), (40, .invokevirtual 119, 3), (43, .ifCond .ne 29, 3), (46, .aload_n 0, 1), (47, .iload_n 2, 1), (48, .aload_n 0, 1), (49, .aload_n 0, 1), (50, .getfield 16, 3), (53, .iload_n 2, 1), (54, .iaload, 1), (55, .iconst 1, 1), (56, .iload_n 3, 1), (57, .ishl, 1), (58, .ior, 1), (59, .invokevirtual 113, 3), (62, .invokevirtual 116, 3), (65, .ifCond .eq 7, 3), (68, .iconst 1, 1), (69, .goto 4, 3), (72, .iconst 0, 1), (73, .istore 5, 2), (75, .iload 4, 2), (77, .ifCond .ne 26, 3), (80, .iload 5, 2), (82, .ifCond .eq 25, 3), (85, .aload_n 0, 1), (86, .iload_n 2, 1), (87, .invokevirtual 133, 3), (90, .ifCond .ne 17, 3), (93, .aload_n 0, 1), (94, .getfield 7, 3), (97, .iload_n 1, 1), (98, .iaload, 1), (99, .iconst 2, 1), (100, .if_icmp .eq 7, 3), (103, .iconst 1, 1), (104, .goto 4, 3), (107, .iconst 0, 1), (108, .ireturn, 1)]
def qC97 : List Instr := [.aload 0, .getfield 263, .iload 3, .invokestatic 1186, .ifCond .eq 19, .aload 0, .getfield 258, .iload 1, .iaload, .iconst 2, .if_icmp .eq 19, .aload 0, .getfield 258, .iload 1, .iaload, .iconst 3, .if_icmp .eq 19, .iconst 1, .goto 20, .iconst 0, .istore 4, .aload 0, .iload 2, .invokevirtual 23076, .ifCond .ne 41, .aload 0, .iload 2, .aload 0, .aload 0, .getfield 260, .iload 2, .iaload, .iconst 1, .iload 3, .ishl, .ior, .invokevirtual 22564, .invokevirtual 22836, .ifCond .eq 41, .iconst 1, .goto 42, .iconst 0, .istore 5, .iload 4, .ifCond .ne 57, .iload 5, .ifCond .eq 59, .aload 0, .iload 2, .invokevirtual 22308, .ifCond .ne 59, .aload 0, .getfield 258, .iload 1, .iaload, .iconst 2, .if_icmp .eq 59, .iconst 1, .goto 60, .iconst 0, .ireturn]
/-- 98: X5 say(III)I -/
def qR98 : List (Nat × Instr × Nat) := [(0, .aload_n 0, 1), (1, .iload_n 1, 1), (2, .iload_n 2, 1), (3, .iload_n 3, 1), (4, .invokevirtual 136, 3), (7, .istore 4, 2), (9, .aload_n 0, 1), (10, .iload_n 2, 1), (11, .invokevirtual 119, 3), (14, .istore 5, 2), (16, .aload_n 0, 1), (17, .getfield 16, 3), (20, .iload_n 2, 1), (21, .dup2, 1), (22, .iaload, 1), (23, .iconst 1, 1), (24, .iload_n 3, 1), (25, .ishl, 1), (26, .ior, 1), (27, .iastore, 1), (28, .aload_n 0, 1), (29, .iload_n 2, 1), (30, .invokevirtual 119, 3), (33, .ifCond .eq 12, 3), (36, .iload 5, 2), (38, .ifCond .ne 7, 3), (41, .iconst 1, 1), (42, .goto 4, 3), (45, .iconst 0, 1), (46, .istore 6, 2), (48, .iload 6, 2), (50, .ifCond .eq 15, 3), (53, .aload_n 0, 1), (54, .iload_n 2, 1), (55, .invokevirtual 133, 3), (58, .ifCond .eq 7, 3), (61, .iconst 1, 1), (62, .goto 4, 3), (65, .iconst 0, 1), (66, .istore 7, 2), (68, .aload_n 0, 1), (69, .dup, 1), (70, .getfield 97, 3), (73, .iload 4, 2), (75, .ifCond .eq 9, 3), (78, .iconst 1, 1), (79, .iload_n 1, 1), (80, .ishl, 1), (81, .goto 4, 3), (84, .iconst 0, 1), (85, .ior, 1), (86, .putfield 97, 3), (89, .aload_n 0, 1), (90, .dup, 1), (91, .getfield 100, 3), (94, .iload 7, 2), (96, .ifCond .eq 9, 3), (99, .iconst 1, 1), (100, .iload_n 2, 1), (101, .ishl, 1), (102, .goto 4, 3), (105, .iconst 0, 1), (106, .ior, 1), (107, .putfield 100, 3), (110, .aload_n 0, 1), (111, .getfield 19, 3), (114, .iload_n 1, 1), (115, .dup2, 1), (116, .iaload, 1), (117, .iconst 1, 1), (118, .iadd, 1), (119, .iastore, 1), (120, .aload_n 0, 1), (121, .dup, 1), (122, .getfield 103, 3), (125, .iconst 1, 1), (126, .iadd, 1), (127, .putfield 103, 3), (130, .iload 6, 2), (132, .ifCond .eq 7, 3), (135, .iconst 1, 1), (136, .goto 4, 3), (139, .iconst 0, 1), (140, .iload 4, 2), (142, .ifCond .eq 7, 3), (145, .iconst 2, 1), (146, .goto 4, 3), (149, .iconst 0, 1), (150, .iadd, 1), (151, .iload 7, 2), (153, .ifCond .eq 7, 3), (156, .iconst 4, 1), (157, .goto 4, 3), (160, .iconst 0, 1), (161, .iadd, 1), (162, .ireturn, 1)]
def qC98 : List Instr := [.aload 0, .iload 1, .iload 2, .iload 3, .invokevirtual 24900, .istore 4, .aload 0, .iload 2, .invokevirtual 23076, .istore 5, .aload 0, .getfield 260, .iload 2, .dup2, .iaload, .iconst 1, .iload 3, .ishl, .ior, .iastore, .aload 0, .iload 2, .invokevirtual 23076, .ifCond .eq 28, .iload 5, .ifCond .ne 28, .iconst 1, .goto 29, .iconst 0, .istore 6, .iload 6, .ifCond .eq 38, .aload 0, .iload 2, .invokevirtual 22308, .ifCond .eq 38, .iconst 1, .goto 39, .iconst 0, .istore 7, .aload 0, .dup, .getfield 264, .iload 4, .ifCond .eq 49, .iconst 1, .iload 1, .ishl, .goto 50, .iconst 0, .ior, .putfield 264, .aload 0, .dup, .getfield 265, .iload 7, .ifCond .eq 61, .iconst 1, .iload 2, .ishl, .goto 62, .iconst 0, .ior, .putfield 265, .aload 0, .getfield 261, .iload 1, .dup2, .iaload, .iconst 1, .iadd, .iastore, .aload 0, .dup, .getfield 266, .iconst 1, .iadd, .putfield 266, .iload 6, .ifCond .eq 82, .iconst 1, .goto 83, .iconst 0, .iload 4, .ifCond .eq 87, .iconst 2, .goto 88, .iconst 0, .iadd, .iload 7, .ifCond .eq 93, .iconst 4, .goto 94, .iconst 0, .iadd, .ireturn]
/-- 99: X5 tell(III)I -/
def qR99 : List (Nat × Instr × Nat) := [(0, .aload_n 0, 1), (1, .iload_n 1, 1), (2, .invokevirtual 123, 3), (5, .ifCond .eq 24, 3), (8, .aload_n 0, 1), (9, .iload_n 2, 1), (10, .invokevirtual 123, 3), (13, .ifCond .eq 16, 3), (16, .iload_n 1, 1), (17, .iload_n 2, 1), (18, .if_icmp .eq 11, 3), (21, .aload_n 0, 1), (22, .iload_n 3, 1), (23, .invokevirtual 130, 3), (26, .ifCond .ne 6, 3), (29, .bipush (-101), 2), (31, .ireturn, 1), (32, .aload_n 0, 1), (33, .iload_n 1, 1), (34, .iload_n 2, 1), (35, .iload_n 3, 1), (36, .invokevirtual 139, 3), (39, .ifCond .eq 13, 3), (42, .aload_n 0, 1), (43, .iload_n 1, 1), (44, .iload_n 2, 1), (45, .iload_n 3, 1), (46, .invokevirtual 142, 3), (49, .goto 5, 3), (52, .bipush (-103), 2), (54, .ireturn, 1)]
def qC99 : List Instr := [.aload 0, .iload 1, .invokevirtual 21796, .ifCond .eq 15, .aload 0, .iload 2, .invokevirtual 21796, .ifCond .eq 15, .iload 1, .iload 2, .if_icmp .eq 15, .aload 0, .iload 3, .invokevirtual 22052, .ifCond .ne 17, .iconst (-101), .ireturn, .aload 0, .iload 1, .iload 2, .iload 3, .invokevirtual 24644, .ifCond .eq 29, .aload 0, .iload 1, .iload 2, .iload 3, .invokevirtual 25156, .goto 30, .iconst (-103), .ireturn]
/-- 100: X5 save()V -/
def qR100 : List (Nat × Instr × Nat) := [(0, .iconst 0, 1), (1, .istore_n 1, 1), (2, .iload_n 1, 1), (3, .iconst 4, 1), (4, .if_icmp .ge 21, 3), (7, .aload_n 0, 1), (8, .getfield 38, 3), (11, .iload_n 1, 1), (12, .aload_n 0, 1), (13, .getfield 16, 3), (16, .iload_n 1, 1), (17, .iaload, 1), (18, .iastore, 1), (19, .iinc 1 1, 3), (22, .goto (-20), 3), (25, .return_, 1)]
def qC100 : List Instr := [.iconst 0, .istore 1, .iload 1, .iconst 4, .if_icmp .ge 15, .aload 0, .getfield 276, .iload 1, .aload 0, .getfield 260, .iload 1, .iaload, .iastore, .iinc 1 1, .goto 2, .return_]
/-- 101: X5 load()V -/
def qR101 : List (Nat × Instr × Nat) := [(0, .iconst 0, 1), (1, .istore_n 1, 1), (2, .iload_n 1, 1), (3, .iconst 4, 1), (4, .if_icmp .ge 21, 3), (7, .aload_n 0, 1), (8, .getfield 16, 3), (11, .iload_n 1, 1), (12, .aload_n 0, 1), (13, .getfield 38, 3), (16, .iload_n 1, 1), (17, .iaload, 1), (18, .iastore, 1), (19, .iinc 1 1, 3), (22, .goto (-20), 3), (25, .return_, 1)]
def qC101 : List Instr := [.iconst 0, .istore 1, .iload 1, .iconst 4, .if_icmp .ge 15, .aload 0, .getfield 260, .iload 1, .aload 0, .getfield 276, .iload 1, .iaload, .iastore, .iinc 1 1, .goto 2, .return_]
/-- 102: X5 mayWord(I)Z -/
def qR102 : List (Nat × Instr × Nat) := [(0, .iload_n 1, 1), (1, .bipush 16, 2), (3, .idiv, 1), (4, .istore_n 2, 1), (5, .iload_n 1, 1), (6, .iconst 4, 1), (7, .idiv, 1), (8, .iconst 4, 1), (9, .irem, 1), (10, .istore_n 3, 1), (11, .iload_n 1, 1), (12, .iconst 4, 1), (13, .irem, 1), (14, .istore 4, 2), (16, .aload_n 0, 1), (17, .iload_n 2, 1), (18, .invokevirtual 123, 3), (21, .ifCond .eq 33, 3), (24, .aload_n 0, 1), (25, .iload_n 3, 1), (26, .invokevirtual 123, 3), (29, .ifCond .eq 25, 3), (32, .aload_n 0, 1), (33, .iload_n 2, 1), (34, .iload_n 3, 1), (35, .iload 4, 2), (37, .invokevirtual 139, 3), (40, .ifCond .eq 14, 3), (43, .aload_n 0, 1), (44, .iload_n 2, 1), (45, .iload_n 3, 1), (46, .iload 4, 2), (48, .invokevirtual 136, 3), (51, .ifCond .eq 5, 3), (54, .iconst 0, 1), (55, .ireturn, 1), (56, .aload_n 0, 1), (57, .getfield 16, 3), (60, .iload_n 3, 1), (61, .dup2, 1), (62, .iaload, 1), (63, .iconst 1, 1), (64, .iload 4, 2), (66, .ishl, 1), (67, .ior, 1), (68, .iastore, 1), (69, .iconst 1, 1), (70, .ireturn, 1)]
def qC102 : List Instr := [.iload 1, .iconst 16, .idiv, .istore 2, .iload 1, .iconst 4, .idiv, .iconst 4, .irem, .istore 3, .iload 1, .iconst 4, .irem, .istore 4, .aload 0, .iload 2, .invokevirtual 21796, .ifCond .eq 34, .aload 0, .iload 3, .invokevirtual 21796, .ifCond .eq 34, .aload 0, .iload 2, .iload 3, .iload 4, .invokevirtual 24644, .ifCond .eq 34, .aload 0, .iload 2, .iload 3, .iload 4, .invokevirtual 24900, .ifCond .eq 36, .iconst 0, .ireturn, .aload 0, .getfield 260, .iload 3, .dup2, .iaload, .iconst 1, .iload 4, .ishl, .ior, .iastore, .iconst 1, .ireturn]
/-- 103: X5 isPlan(III)Z -/
def qR103 : List (Nat × Instr × Nat) := [(0, .iconst 1, 1), (1, .istore 4, 2), (3, .iload_n 2, 1), (4, .iconst 1, 1), (5, .isub, 1), (6, .istore 5, 2), (8, .iload 5, 2), (10, .ifCond .lt 30, 3), (13, .iload 4, 2), (15, .ifCond .eq 25, 3), (18, .aload_n 0, 1), (19, .iload_n 3, 1), (20, .bipush 6, 2), (22, .iload 5, 2), (24, .imul, 1), (25, .ishr, 1), (26, .bipush 63, 2), (28, .iand, 1), (29, .invokevirtual 146, 3), (32, .istore 4, 2), (34, .iinc 5 (-1), 3), (37, .goto (-29), 3), (40, .iload 4, 2), (42, .ifCond .eq 15, 3), (45, .aload_n 0, 1), (46, .iload_n 1, 1), (47, .invokevirtual 119, 3), (50, .ifCond .eq 7, 3), (53, .iconst 1, 1), (54, .goto 4, 3), (57, .iconst 0, 1), (58, .istore 4, 2), (60, .aload_n 0, 1), (61, .invokevirtual 149, 3), (64, .iload 4, 2), (66, .ireturn, 1)]
def qC103 : List Instr := [.iconst 1, .istore 4, .iload 2, .iconst 1, .isub, .istore 5, .iload 5, .ifCond .lt 22, .iload 4, .ifCond .eq 22, .aload 0, .iload 3, .iconst 6, .iload 5, .imul, .ishr, .iconst 63, .iand, .invokevirtual 26148, .istore 4, .iinc 5 (-1), .goto 6, .iload 4, .ifCond .eq 30, .aload 0, .iload 1, .invokevirtual 23076, .ifCond .eq 30, .iconst 1, .goto 31, .iconst 0, .istore 4, .aload 0, .invokevirtual 25876, .iload 4, .ireturn]
/-- 104: X5 planNow(II)I -/
def qR104 : List (Nat × Instr × Nat) := [(0, .aload_n 0, 1), (1, .invokevirtual 152, 3), (4, .iconst 0, 1), (5, .istore_n 3, 1), (6, .iload_n 3, 1), (7, .iconst 3, 1), (8, .if_icmp .gt 78, 3), (11, .iconst 0, 1), (12, .istore 4, 2), (14, .iload 4, 2), (16, .iconst 1, 1), (17, .bipush 6, 2), (19, .iload_n 3, 1), (20, .imul, 1), (21, .ishl, 1), (22, .if_icmp .ge 58, 3), (25, .aload_n 0, 1), (26, .iload_n 1, 1), (27, .iload_n 3, 1), (28, .iload 4, 2), (30, .invokevirtual 155, 3), (33, .ifCond .eq 41, 3), (36, .iload_n 2, 1), (37, .ifCond .ne 7, 3), (40, .iload_n 3, 1), (41, .goto 32, 3), (44, .iload_n 2, 1), (45, .bipush 10, 2), (47, .isub, 1), (48, .iload_n 3, 1), (49, .if_icmp .ge 23, 3), (52, .iload 4, 2), (54, .bipush 6, 2), (56, .iload_n 3, 1), (57, .iconst 1, 1), (58, .isub, 1), (59, .iload_n 2, 1), (60, .bipush 10, 2), (62, .isub, 1), (63, .isub, 1), (64, .imul, 1), (65, .ishr, 1), (66, .bipush 63, 2), (68, .iand, 1), (69, .goto 4, 3), (72, .iconst (-1), 1), (73, .ireturn, 1), (74, .iinc 4 1, 3), (77, .goto (-63), 3), (80, .iinc 3 1, 3), (83, .goto (-77), 3), (86, .iconst (-1), 1), (87, .ireturn, 1)]
def qC104 : List Instr := [.aload 0, .invokevirtual 25620, .iconst 0, .istore 3, .iload 3, .iconst 3, .if_icmp .gt 51, .iconst 0, .istore 4, .iload 4, .iconst 1, .iconst 6, .iload 3, .imul, .ishl, .if_icmp .ge 49, .aload 0, .iload 1, .iload 3, .iload 4, .invokevirtual 26436, .ifCond .eq 47, .iload 2, .ifCond .ne 26, .iload 3, .goto 46, .iload 2, .iconst 10, .isub, .iload 3, .if_icmp .ge 45, .iload 4, .iconst 6, .iload 3, .iconst 1, .isub, .iload 2, .iconst 10, .isub, .isub, .imul, .ishr, .iconst 63, .iand, .goto 46, .iconst (-1), .ireturn, .iinc 4 1, .goto 9, .iinc 3 1, .goto 4, .iconst (-1), .ireturn]
/-- 105: X5 plan(II)I -/
def qR105 : List (Nat × Instr × Nat) := [(0, .aload_n 0, 1), (1, .iload_n 1, 1), (2, .invokevirtual 123, 3), (5, .ifCond .ne 6, 3), (8, .bipush (-101), 2), (10, .ireturn, 1), (11, .iload_n 2, 1), (12, .ifCond .eq 17, 3), (15, .iload_n 2, 1), (16, .bipush 10, 2), (18, .bipush 12, 2), (20, .invokestatic 56, 3), (23, .ifCond .ne 6, 3), (26, .bipush (-102), 2), (28, .ireturn, 1), (29, .aload_n 0, 1), (30, .iload_n 1, 1), (31, .invokevirtual 133, 3), (34, .ifCond .eq 23, 3), (37, .aload_n 0, 1), (38, .getfield 97, 3), (41, .iload_n 1, 1), (42, .invokestatic 109, 3), (45, .ifCond .ne 12, 3), (48, .aload_n 0, 1), (49, .getfield 158, 3), (52, .bipush 12, 2), (54, .if_icmp .ne 6, 3), (57, .bipush (-103), 2), (59, .ireturn, 1), (60, .aload_n 0, 1), (61, .dup, 1), (62, .getfield 158, 3), (65, .iconst 1, 1), (66, .iadd, 1), (67, .putfield 158, 3), (70, .aload_n 0, 1), (71, .iload_n 1, 1), (72, .iload_n 2, 1), (73, .invokevirtual 161, 3), (76, .ireturn, 1)]
def qC105 : List Instr := [.aload 0, .iload 1, .invokevirtual 21796, .ifCond .ne 6, .iconst (-101), .ireturn, .iload 2, .ifCond .eq 15, .iload 2, .iconst 10, .iconst 12, .invokestatic 1171, .ifCond .ne 15, .iconst (-102), .ireturn, .aload 0, .iload 1, .invokevirtual 22308, .ifCond .eq 28, .aload 0, .getfield 264, .iload 1, .invokestatic 1186, .ifCond .ne 28, .aload 0, .getfield 271, .iconst 12, .if_icmp .ne 30, .iconst (-103), .ireturn, .aload 0, .dup, .getfield 271, .iconst 1, .iadd, .putfield 271, .aload 0, .iload 1, .iload 2, .invokevirtual 26676, .ireturn]
/-- 106: X5 safeNow(II)I -/
def qR106 : List (Nat × Instr × Nat) := [(0, .iconst 0, 1), (1, .istore_n 3, 1), (2, .iconst 0, 1), (3, .istore 4, 2), (5, .iload 4, 2), (7, .iconst 4, 1), (8, .if_icmp .ge 42, 3), (11, .iload_n 3, 1), (12, .aload_n 0, 1), (13, .iload_n 1, 1), (14, .iload_n 2, 1), (15, .iload 4, 2), (17, .invokevirtual 139, 3), (20, .ifCond .eq 21, 3), (23, .aload_n 0, 1), (24, .iload_n 1, 1), (25, .iload_n 2, 1), (26, .iload 4, 2), (28, .invokevirtual 136, 3), (31, .ifCond .ne 10, 3), (34, .iconst 1, 1), (35, .iload 4, 2), (37, .ishl, 1), (38, .goto 4, 3), (41, .iconst 0, 1), (42, .ior, 1), (43, .istore_n 3, 1), (44, .iinc 4 1, 3), (47, .goto (-42), 3), (50, .iload_n 3, 1), (51, .ireturn, 1)]
def qC106 : List Instr := [.iconst 0, .istore 3, .iconst 0, .istore 4, .iload 4, .iconst 4, .if_icmp .ge 29, .iload 3, .aload 0, .iload 1, .iload 2, .iload 4, .invokevirtual 24644, .ifCond .eq 24, .aload 0, .iload 1, .iload 2, .iload 4, .invokevirtual 24900, .ifCond .ne 24, .iconst 1, .iload 4, .ishl, .goto 25, .iconst 0, .ior, .istore 3, .iinc 4 1, .goto 4, .iload 3, .ireturn]
/-- 107: X5 isAnyHanged(II)Z -/
def qR107 : List (Nat × Instr × Nat) := [(0, .aload_n 0, 1), (1, .getfield 97, 3), (4, .iload_n 1, 1), (5, .invokestatic 109, 3), (8, .ifCond .ne 14, 3), (11, .aload_n 0, 1), (12, .getfield 97, 3), (15, .iload_n 2, 1), (16, .invokestatic 109, 3), (19, .ifCond .eq 7, 3), (22, .iconst 1, 1), (23, .goto 4, 3), (26, .iconst 0, 1), (27, .ireturn, 1)]
def qC107 : List Instr := [.aload 0, .getfield 264, .iload 1, .invokestatic 1186, .ifCond .ne 10, .aload 0, .getfield 264, .iload 2, .invokestatic 1186, .ifCond .eq 12, .iconst 1, .goto 13, .iconst 0, .ireturn]
/-- 108: X5 safe(II)I -/
def qR108 : List (Nat × Instr × Nat) := [(0, .aload_n 0, 1), (1, .iload_n 1, 1), (2, .invokevirtual 123, 3), (5, .ifCond .eq 16, 3), (8, .aload_n 0, 1), (9, .iload_n 2, 1), (10, .invokevirtual 123, 3), (13, .ifCond .eq 8, 3), (16, .iload_n 1, 1), (17, .iload_n 2, 1), (18, .if_icmp .ne 6, 3), (21, .bipush (-101), 2), (23, .ireturn, 1), (24, .aload_n 0, 1), (25, .iload_n 1, 1), (26, .iload_n 2, 1), (27, .invokevirtual 164, 3), (30, .ifCond .eq 8, 3), (33, .bipush (-103), 2), (35, .goto 9, 3), (38, .aload_n 0, 1), (39, .iload_n 1, 1), (40, .iload_n 2, 1), (41, .invokevirtual 167, 3), (44, .ireturn, 1)]
def qC108 : List Instr := [.aload 0, .iload 1, .invokevirtual 21796, .ifCond .eq 11, .aload 0, .iload 2, .invokevirtual 21796, .ifCond .eq 11, .iload 1, .iload 2, .if_icmp .ne 13, .iconst (-101), .ireturn, .aload 0, .iload 1, .iload 2, .invokevirtual 27444, .ifCond .eq 20, .iconst (-103), .goto 24, .aload 0, .iload 1, .iload 2, .invokevirtual 27188, .ireturn]
/-- 109: X5 ask(IIZ)I -/
def qR109 : List (Nat × Instr × Nat) := [(0, .aload_n 0, 1), (1, .iload_n 1, 1), (2, .invokevirtual 123, 3), (5, .ifCond .ne 6, 3), (8, .bipush (-101), 2), (10, .ireturn, 1), (11, .iload_n 2, 1), (12, .iconst 0, 1), (13, .bipush 15, 2), (15, .invokestatic 56, 3), (18, .ifCond .ne 6, 3), (21, .bipush (-102), 2), (23, .ireturn, 1), (24, .aload_n 0, 1), (25, .getfield 106, 3), (28, .bipush 6, 2), (30, .if_icmp .ne 6, 3), (33, .bipush (-104), 2), (35, .ireturn, 1), (36, .aload_n 0, 1), (37, .getfield 25, 3), (40, .aload_n 0, 1), (41, .getfield 106, 3), (44, .iload_n 1, 1), (45, .iastore, 1), (46, .aload_n 0, 1), (47, .getfield 28, 3), (50, .aload_n 0, 1), (51, .getfield 106, 3), (54, .iload_n 2, 1), (55, .iastore, 1), (56, .aload_n 0, 1), (57, .getfield 31, 3), (60, .aload_n 0, 1), (61, .getfield 106, 3), (64, .iload_n 3, 1), (65, .ifCond .eq 7, 3), (68, .iconst 1, 1), (69, .goto 4, 3), (72, .iconst 0, 1), (73, .iastore, 1), (74, .aload_n 0, 1), (75, .dup, 1), (76, .getfield 106, 3), (79, .iconst 1, 1), (80, .iadd, 1), (81, .putfield 106, 3), (84, .aload_n 0, 1), (85, .getfield 106, 3), (88, .ireturn, 1)]
def qC109 : List Instr := [.aload 0, .iload 1, .invokevirtual 21796, .ifCond .ne 6, .iconst (-101), .ireturn, .iload 2, .iconst 0, .iconst 15, .invokestatic 1171, .ifCond .ne 13, .iconst (-102), .ireturn, .aload 0, .getfield 267, .iconst 6, .if_icmp .ne 19, .iconst (-104), .ireturn, .aload 0, .getfield 268, .aload 0, .getfield 267, .iload 1, .iastore, .aload 0, .getfield 269, .aload 0, .getfield 267, .iload 2, .iastore, .aload 0, .getfield 270, .aload 0, .getfield 267, .iload 3, .ifCond .eq 39, .iconst 1, .goto 40, .iconst 0, .iastore, .aload 0, .dup, .getfield 267, .iconst 1, .iadd, .putfield 267, .aload 0, .getfield 267, .ireturn]
/-- 110: X5 forget()I -/
def qR110 : List (Nat × Instr × Nat) := [(0, .aload_n 0, 1), (1, .getfield 106, 3), (4, .istore_n 1, 1), (5, .aload_n 0, 1), (6, .iconst 0, 1), (7, .putfield 106, 3), (10, .iload_n 1, 1), (11, .ireturn, 1)]
def qC110 : List Instr := [.aload 0, .getfield 267, .istore 1, .aload 0, .iconst 0, .putfield 267, .iload 1, .ireturn]
/-- 111: X5 isAsked()Z -/
def qR111 : List (Nat × Instr × Nat) := [(0, .iconst 1, 1), (1, .istore_n 1, 1), (2, .iconst 0, 1), (3, .istore_n 2, 1), (4, .iload_n 2, 1), (5, .aload_n 0, 1), (6, .getfield 106, 3), (9, .if_icmp .ge 57, 3), (12, .iload_n 1, 1), (13, .ifCond .eq 45, 3), (16, .aload_n 0, 1), (17, .aload_n 0, 1), (18, .getfield 25, 3), (21, .iload_n 2, 1), (22, .iaload, 1), (23, .aload_n 0, 1), (24, .aload_n 0, 1), (25, .getfield 28, 3), (28, .iload_n 2, 1), (29, .iaload, 1), (30, .invokevirtual 113, 3), (33, .invokevirtual 116, 3), (36, .aload_n 0, 1), (37, .getfield 31, 3), (40, .iload_n 2, 1), (41, .iaload, 1), (42, .iconst 1, 1), (43, .if_icmp .ne 7, 3), (46, .iconst 1, 1), (47, .goto 4, 3), (50, .iconst 0, 1), (51, .if_icmp .ne 7, 3), (54, .iconst 1, 1), (55, .goto 4, 3), (58, .iconst 0, 1), (59, .istore_n 1, 1), (60, .iinc 2 1, 3), (63, .goto (-59), 3), (66, .iload_n 1, 1), (67, .ireturn, 1)]
def qC111 : List Instr := [.iconst 1, .istore 1, .iconst 0, .istore 2, .iload 2, .aload 0, .getfield 267, .if_icmp .ge 38, .iload 1, .ifCond .eq 34, .aload 0, .aload 0, .getfield 268, .iload 2, .iaload, .aload 0, .aload 0, .getfield 269, .iload 2, .iaload, .invokevirtual 22564, .invokevirtual 22836, .aload 0, .getfield 270, .iload 2, .iaload, .iconst 1, .if_icmp .ne 30, .iconst 1, .goto 31, .iconst 0, .if_icmp .ne 34, .iconst 1, .goto 35, .iconst 0, .istore 1, .iinc 2 1, .goto 4, .iload 1, .ireturn]
/-- 112: X5 tellsNow(I)I -/
def qR112 : List (Nat × Instr × Nat) := [(0, .aload_n 0, 1), (1, .getfield 22, 3), (4, .iload_n 1, 1), (5, .iaload, 1), (6, .istore_n 2, 1), (7, .iconst 0, 1), (8, .istore_n 3, 1), (9, .iconst 1, 1), (10, .istore 4, 2), (12, .iload 4, 2), (14, .bipush 9, 2), (16, .if_icmp .gt 37, 3), (19, .aload_n 0, 1), (20, .getfield 22, 3), (23, .iload_n 1, 1), (24, .iload 4, 2), (26, .iastore, 1), (27, .iload_n 3, 1), (28, .aload_n 0, 1), (29, .invokevirtual 170, 3), (32, .ifCond .eq 12, 3), (35, .iconst 1, 1), (36, .iload 4, 2), (38, .iconst 1, 1), (39, .isub, 1), (40, .ishl, 1), (41, .goto 4, 3), (44, .iconst 0, 1), (45, .ior, 1), (46, .istore_n 3, 1), (47, .iinc 4 1, 3), (50, .goto (-38), 3), (53, .aload_n 0, 1), (54, .getfield 22, 3), (57, .iload_n 1, 1), (58, .iload_n 2, 1), (59, .iastore, 1), (60, .iload_n 3, 1), (61, .ireturn, 1)]
def qC112 : List Instr := [.aload 0, .getfield 262, .iload 1, .iaload, .istore 2, .iconst 0, .istore 3, .iconst 1, .istore 4, .iload 4, .iconst 9, .if_icmp .gt 32, .aload 0, .getfield 262, .iload 1, .iload 4, .iastore, .iload 3, .aload 0, .invokevirtual 28436, .ifCond .eq 27, .iconst 1, .iload 4, .iconst 1, .isub, .ishl, .goto 28, .iconst 0, .ior, .istore 3, .iinc 4 1, .goto 9, .aload 0, .getfield 262, .iload 1, .iload 2, .iastore, .iload 3, .ireturn]
/-- 113: X5 tells(I)I -/
def qR113 : List (Nat × Instr × Nat) := [(0, .aload_n 0, 1), (1, .iload_n 1, 1), (2, .invokevirtual 130, 3), (5, .ifCond .eq 11, 3), (8, .aload_n 0, 1), (9, .iload_n 1, 1), (10, .invokevirtual 174, 3), (13, .goto 5, 3), (16, .bipush (-101), 2), (18, .ireturn, 1)]
def qC113 : List Instr := [.aload 0, .iload 1, .invokevirtual 22052, .ifCond .eq 8, .aload 0, .iload 1, .invokevirtual 28708, .goto 9, .iconst (-101), .ireturn]
/-- 114: X5 worstBy(IIII)I -/
def qR114 : List (Nat × Instr × Nat) := [(0, .aload_n 0, 1), (1, .getfield 22, 3), (4, .iload_n 1, 1), (5, .iaload, 1), (6, .istore 5, 2), (8, .iconst 0, 1), (9, .istore 6, 2), (11, .iconst 0, 1), (12, .istore 7, 2), (14, .iconst 1, 1), (15, .istore 8, 2), (17, .iload 8, 2), (19, .bipush 9, 2), (21, .if_icmp .gt 65, 3), (24, .aload_n 0, 1), (25, .getfield 22, 3), (28, .iload_n 1, 1), (29, .iload 8, 2), (31, .iastore, 1), (32, .iload 7, 2), (34, .iload_n 2, 1), (35, .iload 8, 2), (37, .iconst 1, 1), (38, .isub, 1), (39, .ishr, 1), (40, .iconst 1, 1), (41, .iand, 1), (42, .iadd, 1), (43, .istore 7, 2), (45, .iload 6, 2), (47, .iload_n 2, 1), (48, .iload 8, 2), (50, .iconst 1, 1), (51, .isub, 1), (52, .invokestatic 109, 3), (55, .ifCond .eq 21, 3), (58, .aload_n 0, 1), (59, .iload_n 3, 1), (60, .aload_n 0, 1), (61, .iload 4, 2), (63, .invokevirtual 113, 3), (66, .invokevirtual 116, 3), (69, .ifCond .eq 7, 3), (72, .iconst 1, 1), (73, .goto 4, 3), (76, .iconst 0, 1), (77, .iadd, 1), (78, .istore 6, 2), (80, .iinc 8 1, 3), (83, .goto (-66), 3), (86, .aload_n 0, 1), (87, .getfield 22, 3), (90, .iload_n 1, 1), (91, .iload 5, 2), (93, .iastore, 1), (94, .iload 6, 2), (96, .iload 7, 2), (98, .iload 6, 2), (100, .isub, 1), (101, .if_icmp .le 8, 3), (104, .iload 6, 2), (106, .goto 8, 3), (109, .iload 7, 2), (111, .iload 6, 2), (113, .isub, 1), (114, .ireturn, 1)]
def qC114 : List Instr := [.aload 0, .getfield 262, .iload 1, .iaload, .istore 5, .iconst 0, .istore 6, .iconst 0, .istore 7, .iconst 1, .istore 8, .iload 8, .iconst 9, .if_icmp .gt 50, .aload 0, .getfield 262, .iload 1, .iload 8, .iastore, .iload 7, .iload 2, .iload 8, .iconst 1, .isub, .ishr, .iconst 1, .iand, .iadd, .istore 7, .iload 6, .iload 2, .iload 8, .iconst 1, .isub, .invokestatic 1186, .ifCond .eq 45, .aload 0, .iload 3, .aload 0, .iload 4, .invokevirtual 22564, .invokevirtual 22836, .ifCond .eq 45, .iconst 1, .goto 46, .iconst 0, .iadd, .istore 6, .iinc 8 1, .goto 11, .aload 0, .getfield 262, .iload 1, .iload 5, .iastore, .iload 6, .iload 7, .iload 6, .isub, .if_icmp .le 62, .iload 6, .goto 65, .iload 7, .iload 6, .isub, .ireturn]
/-- 115: X5 nextNow(I)I -/
def qR115 : List (Nat × Instr × Nat) := [(0, .aload_n 0, 1), (1, .iload_n 1, 1), (2, .invokevirtual 174, 3), (5, .istore_n 2, 1), (6, .iconst (-1), 1), (7, .istore_n 3, 1), (8, .ldc 177, 2), (10, .istore 4, 2), (12, .iconst 0, 1), (13, .istore 5, 2), (15, .iload 5, 2), (17, .bipush 16, 2), (19, .aload_n 0, 1), (20, .getfield 88, 3), (23, .imul, 1), (24, .if_icmp .ge 73, 3), (27, .iload_n 2, 1), (28, .ifCond .eq 69, 3), (31, .iload 5, 2), (33, .bipush 16, 2), (35, .irem, 1), (36, .iload_n 1, 1), (37, .invokestatic 109, 3), (40, .ifCond .eq 51, 3), (43, .aload_n 0, 1), (44, .iload_n 1, 1), (45, .iload_n 2, 1), (46, .iload 5, 2), (48, .bipush 16, 2), (50, .idiv, 1), (51, .iload 5, 2), (53, .bipush 16, 2), (55, .irem, 1), (56, .invokevirtual 178, 3), (59, .istore 6, 2), (61, .iload 6, 2), (63, .iload 4, 2), (65, .if_icmp .ge 8, 3), (68, .iload 5, 2), (70, .goto 4, 3), (73, .iload_n 3, 1), (74, .istore_n 3, 1), (75, .iload 6, 2), (77, .iload 4, 2), (79, .if_icmp .ge 8, 3), (82, .iload 6, 2), (84, .goto 5, 3), (87, .iload 4, 2), (89, .istore 4, 2), (91, .iinc 5 1, 3), (94, .goto (-79), 3), (97, .iload_n 3, 1), (98, .ireturn, 1)]
def qC115 : List Instr := [.aload 0, .iload 1, .invokevirtual 28708, .istore 2, .iconst (-1), .istore 3, .iconst 268435456, .istore 4, .iconst 0, .istore 5, .iload 5, .iconst 16, .aload 0, .getfield 257, .imul, .if_icmp .ge 51, .iload 2, .ifCond .eq 51, .iload 5, .iconst 16, .irem, .iload 1, .invokestatic 1186, .ifCond .eq 49, .aload 0, .iload 1, .iload 2, .iload 5, .iconst 16, .idiv, .iload 5, .iconst 16, .irem, .invokevirtual 29268, .istore 6, .iload 6, .iload 4, .if_icmp .ge 40, .iload 5, .goto 41, .iload 3, .istore 3, .iload 6, .iload 4, .if_icmp .ge 47, .iload 6, .goto 48, .iload 4, .istore 4, .iinc 5 1, .goto 10, .iload 3, .ireturn]
/-- 116: X5 next(I)I -/
def qR116 : List (Nat × Instr × Nat) := [(0, .aload_n 0, 1), (1, .iload_n 1, 1), (2, .invokevirtual 130, 3), (5, .ifCond .eq 11, 3), (8, .aload_n 0, 1), (9, .iload_n 1, 1), (10, .invokevirtual 182, 3), (13, .goto 5, 3), (16, .bipush (-101), 2), (18, .ireturn, 1)]
def qC116 : List Instr := [.aload 0, .iload 1, .invokevirtual 22052, .ifCond .eq 8, .aload 0, .iload 1, .invokevirtual 29476, .goto 9, .iconst (-101), .ireturn]
/-- 117: X5 draw(I)I -/
def qR117 : List (Nat × Instr × Nat) := [(0, .aload_n 0, 1), (1, .ldc2_w 185, 3), (4, .aload_n 0, 1), (5, .getfield 187, 3), (8, .lmul, 1), (9, .ldc2_w 191, 3), (12, .ladd, 1), (13, .ldc2_w 193, 3), (16, .land, 1), (17, .putfield 187, 3), (20, .aload_n 0, 1), (21, .getfield 187, 3), (24, .ldc2_w 195, 3), (27, .ldiv, 1), (28, .iload_n 1, 1), (29, .i2l, 1), (30, .lrem, 1), (31, .l2i, 1), (32, .ireturn, 1)]
def qC117 : List Instr := [.aload 0, .jsr 1103515245, .aload 0, .getfield 277, .lmul, .jsr 12345, .ladd, .jsr 2147483647, .land, .putfield 277, .aload 0, .getfield 277, .jsr 65536, .ldiv, .iload 1, .i2l, .lrem, .l2i, .ireturn]
/-- 118: X5 inferring()I -/
def qR118 : List (Nat × Instr × Nat) := [(0, .iconst 0, 1), (1, .istore_n 1, 1), (2, .iconst 0, 1), (3, .istore_n 2, 1), (4, .iload_n 2, 1), (5, .aload_n 0, 1), (6, .getfield 88, 3), (9, .if_icmp .ge 25, 3), (12, .iload_n 1, 1), (13, .aload_n 0, 1), (14, .iload_n 2, 1), (15, .invokevirtual 119, 3), (18, .ifCond .eq 7, 3), (21, .iconst 1, 1), (22, .goto 4, 3), (25, .iconst 0, 1), (26, .iadd, 1), (27, .istore_n 1, 1), (28, .iinc 2 1, 3), (31, .goto (-27), 3), (34, .iload_n 1, 1), (35, .ireturn, 1)]
def qC118 : List Instr := [.iconst 0, .istore 1, .iconst 0, .istore 2, .iload 2, .aload 0, .getfield 257, .if_icmp .ge 20, .iload 1, .aload 0, .iload 2, .invokevirtual 23076, .ifCond .eq 15, .iconst 1, .goto 16, .iconst 0, .iadd, .istore 1, .iinc 2 1, .goto 4, .iload 1, .ireturn]
/-- 119: X5 audiencesNow(III)I -/
def qR119 : List (Nat × Instr × Nat) := [(0, .aload_n 0, 1), (1, .invokevirtual 152, 3), (4, .aload_n 0, 1), (5, .getfield 97, 3), (8, .istore 4, 2), (10, .aload_n 0, 1), (11, .iload_n 2, 1), (12, .i2l, 1), (13, .putfield 187, 3), (16, .iconst 0, 1), (17, .istore 5, 2), (19, .iload 5, 2), (21, .iload_n 1, 1), (22, .if_icmp .ge 93, 3), (25, .aload_n 0, 1), (26, .aload_n 0, 1), (27, .getfield 88, 3), (30, .invokevirtual 197, 3), (33, .istore 6, 2), (35, .aload_n 0, 1), (36, .aload_n 0, 1), (37, .getfield 88, 3), (40, .invokevirtual 197, 3), (43, .istore 7, 2), (45, .aload_n 0, 1), (46, .iconst 4, 1), (47, .invokevirtual 197, 3), (50, .istore 8, 2), (52, .aload_n 0, 1), (53, .iload 6, 2), (55, .iload 7, 2), (57, .iload 8, 2), (59, .invokevirtual 139, 3), (62, .ifCond .eq 47, 3), (65, .aload_n 0, 1), (66, .dup, 1), (67, .getfield 97, 3), (70, .aload_n 0, 1), (71, .iload 6, 2), (73, .iload 7, 2), (75, .iload 8, 2), (77, .invokevirtual 136, 3), (80, .ifCond .eq 10, 3), (83, .iconst 1, 1), (84, .iload 6, 2), (86, .ishl, 1), (87, .goto 4, 3), (90, .iconst 0, 1), (91, .ior, 1), (92, .putfield 97, 3), (95, .aload_n 0, 1), (96, .getfield 16, 3), (99, .iload 7, 2), (101, .dup2, 1), (102, .iaload, 1), (103, .iconst 1, 1), (104, .iload 8, 2), (106, .ishl, 1), (107, .ior, 1), (108, .iastore, 1), (109, .iinc 5 1, 3), (112, .goto (-93), 3), (115, .aload_n 0, 1), (116, .getfield 97, 3), (119, .invokestatic 200, 3), (122, .istore 5, 2), (124, .aload_n 0, 1), (125, .invokevirtual 203, 3), (128, .istore 6, 2), (130, .aload_n 0, 1), (131, .iload 4, 2), (133, .putfield 97, 3), (136, .aload_n 0, 1), (137, .invokevirtual 149, 3), (140, .iload_n 3, 1), (141, .ifCond .ne 8, 3), (144, .iload 5, 2), (146, .goto 18, 3), (149, .iload_n 3, 1), (150, .iconst 1, 1), (151, .if_icmp .ne 8, 3), (154, .iload 6, 2), (156, .goto 8, 3), (159, .aload_n 0, 1), (160, .getfield 187, 3), (163, .l2i, 1), (164, .ireturn, 1)]
def qC119 : List Instr := [.aload 0, .invokevirtual 25620, .aload 0, .getfield 264, .istore 4, .aload 0, .iload 2, .i2l, .putfield 277, .iconst 0, .istore 5, .iload 5, .iload 1, .if_icmp .ge 62, .aload 0, .aload 0, .getfield 257, .invokevirtual 29988, .istore 6, .aload 0, .aload 0, .getfield 257, .invokevirtual 29988, .istore 7, .aload 0, .iconst 4, .invokevirtual 29988, .istore 8, .aload 0, .iload 6, .iload 7, .iload 8, .invokevirtual 24644, .ifCond .eq 60, .aload 0, .dup, .getfield 264, .aload 0, .iload 6, .iload 7, .iload 8, .invokevirtual 24900, .ifCond .eq 47, .iconst 1, .iload 6, .ishl, .goto 48, .iconst 0, .ior, .putfield 264, .aload 0, .getfield 260, .iload 7, .dup2, .iaload, .iconst 1, .iload 8, .ishl, .ior, .iastore, .iinc 5 1, .goto 11, .aload 0, .getfield 264, .invokestatic 1201, .istore 5, .aload 0, .invokevirtual 30228, .istore 6, .aload 0, .iload 4, .putfield 264, .aload 0, .invokevirtual 25876, .iload 3, .ifCond .ne 78, .iload 5, .goto 86, .iload 3, .iconst 1, .if_icmp .ne 83, .iload 6, .goto 86, .aload 0, .getfield 277, .l2i, .ireturn]
/-- 120: X5 audiences(III)I -/
def qR120 : List (Nat × Instr × Nat) := [(0, .iload_n 1, 1), (1, .iconst 1, 1), (2, .bipush 60, 2), (4, .invokestatic 56, 3), (7, .ifCond .eq 16, 3), (10, .iload_n 2, 1), (11, .ifCond .lt 12, 3), (14, .iload_n 3, 1), (15, .iconst 0, 1), (16, .iconst 2, 1), (17, .invokestatic 56, 3), (20, .ifCond .ne 6, 3), (23, .bipush (-102), 2), (25, .ireturn, 1), (26, .aload_n 0, 1), (27, .getfield 88, 3), (30, .ifCond .ne 8, 3), (33, .bipush (-103), 2), (35, .goto 10, 3), (38, .aload_n 0, 1), (39, .iload_n 1, 1), (40, .iload_n 2, 1), (41, .iload_n 3, 1), (42, .invokevirtual 206, 3), (45, .ireturn, 1)]
def qC120 : List Instr := [.iload 1, .iconst 1, .iconst 60, .invokestatic 1171, .ifCond .eq 12, .iload 2, .ifCond .lt 12, .iload 3, .iconst 0, .iconst 2, .invokestatic 1171, .ifCond .ne 14, .iconst (-102), .ireturn, .aload 0, .getfield 257, .ifCond .ne 19, .iconst (-103), .goto 24, .aload 0, .iload 1, .iload 2, .iload 3, .invokevirtual 30532, .ireturn]
/-- 121: X5 image()I -/
def qR121 : List (Nat × Instr × Nat) := [(0, .aload_n 0, 1), (1, .getfield 88, 3), (4, .ifCond .ne 6, 3), (7, .bipush (-103), 2), (9, .ireturn, 1), (10, .aload_n 0, 1), (11, .iconst 1, 1), (12, .putfield 209, 3), (15, .aload_n 0, 1), (16, .aload_n 0, 1), (17, .getfield 91, 3), (20, .putfield 212, 3), (23, .aload_n 0, 1), (24, .aload_n 0, 1), (25, .getfield 94, 3), (28, .putfield 215, 3), (31, .aload_n 0, 1), (32, .aload_n 0, 1), (33, .getfield 97, 3), (36, .putfield 218, 3), (39, .aload_n 0, 1), (40, .aload_n 0, 1), (41, .getfield 100, 3), (44, .putfield 221, 3), (47, .aload_n 0, 1), (48, .aload_n 0, 1), (49, .getfield 103, 3), (52, .putfield 224, 3), (55, .aload_n 0, 1), (56, .aload_n 0, 1), (57, .getfield 106, 3), (60, .putfield 227, 3), (63, .iconst 0, 1), (64, .istore_n 1, 1), (65, .iload_n 1, 1), (66, .iconst 4, 1), (67, .if_icmp .ge 33, 3), (70, .aload_n 0, 1), (71, .getfield 41, 3), (74, .iload_n 1, 1), (75, .aload_n 0, 1), (76, .getfield 16, 3), (79, .iload_n 1, 1), (80, .iaload, 1), (81, .iastore, 1), (82, .aload_n 0, 1), (83, .getfield 44, 3), (86, .iload_n 1, 1), (87, .aload_n 0, 1), (88, .getfield 19, 3), (91, .iload_n 1, 1), (92, .iaload, 1), (93, .iastore, 1), (94, .iinc 1 1, 3), (97, .goto (-32), 3), (100, .iconst 0, 1), (101, .istore_n 1, 1), (102, .iload_n 1, 1), (103, .bipush 6, 2), (105, .if_icmp .ge 45, 3), (108, .aload_n 0, 1), (109, .getfield 47, 3), (112, .iload_n 1, 1), (113, .aload_n 0, 1), (114, .getfield 25, 3), (117, .iload_n 1, 1), (118, .iaload, 1), (119, .iastore, 1), (120, .aload_n 0, 1), (121, .getfield 50, 3), (124, .iload_n 1, 1), (125, .aload_n 0, 1), (126, .getfield 28, 3), (129, .iload_n 1, 1), (130, .iaload, 1), (131, .iastore, 1), (132, .aload_n 0, 1), (133, .getfield 53, 3), (136, .iload_n 1, 1), (137, .aload_n 0, 1), (138, .getfield 31, 3), (141, .iload_n 1, 1), (142, .iaload, 1), (143, .iastore, 1), (144, .iinc 1 1, 3), (147, .goto (-45), 3), (150, .aload_n 0, 1), (151, .getfield 103, 3), (154, .ireturn, 1)]
def qC121 : List Instr := [.aload 0, .getfield 257, .ifCond .ne 5, .iconst (-103), .ireturn, .aload 0, .iconst 1, .putfield 278, .aload 0, .aload 0, .getfield 256, .putfield 279, .aload 0, .aload 0, .getfield 263, .putfield 280, .aload 0, .aload 0, .getfield 264, .putfield 281, .aload 0, .aload 0, .getfield 265, .putfield 282, .aload 0, .aload 0, .getfield 266, .putfield 283, .aload 0, .aload 0, .getfield 267, .putfield 284, .iconst 0, .istore 1, .iload 1, .iconst 4, .if_icmp .ge 55, .aload 0, .getfield 285, .iload 1, .aload 0, .getfield 260, .iload 1, .iaload, .iastore, .aload 0, .getfield 286, .iload 1, .aload 0, .getfield 261, .iload 1, .iaload, .iastore, .iinc 1 1, .goto 34, .iconst 0, .istore 1, .iload 1, .iconst 6, .if_icmp .ge 86, .aload 0, .getfield 287, .iload 1, .aload 0, .getfield 268, .iload 1, .iaload, .iastore, .aload 0, .getfield 288, .iload 1, .aload 0, .getfield 269, .iload 1, .iaload, .iastore, .aload 0, .getfield 289, .iload 1, .aload 0, .getfield 270, .iload 1, .iaload, .iastore, .iinc 1 1, .goto 57, .aload 0, .getfield 266, .ireturn]
/-- 122: X5 restore()I -/
def qR122 : List (Nat × Instr × Nat) := [(0, .aload_n 0, 1), (1, .getfield 209, 3), (4, .ifCond .eq 14, 3), (7, .aload_n 0, 1), (8, .getfield 212, 3), (11, .aload_n 0, 1), (12, .getfield 91, 3), (15, .if_icmp .eq 6, 3), (18, .bipush (-103), 2), (20, .ireturn, 1), (21, .aload_n 0, 1), (22, .aload_n 0, 1), (23, .getfield 215, 3), (26, .putfield 94, 3), (29, .aload_n 0, 1), (30, .aload_n 0, 1), (31, .getfield 218, 3), (34, .putfield 97, 3), (37, .aload_n 0, 1), (38, .aload_n 0, 1), (39, .getfield 221, 3), (42, .putfield 100, 3), (45, .aload_n 0, 1), (46, .aload_n 0, 1), (47, .getfield 224, 3), (50, .putfield 103, 3), (53, .aload_n 0, 1), (54, .aload_n 0, 1), (55, .getfield 227, 3), (58, .putfield 106, 3), (61, .iconst 0, 1), (62, .istore_n 1, 1), (63, .iload_n 1, 1), (64, .iconst 4, 1), (65, .if_icmp .ge 33, 3), (68, .aload_n 0, 1), (69, .getfield 16, 3), (72, .iload_n 1, 1), (73, .aload_n 0, 1), (74, .getfield 41, 3), (77, .iload_n 1, 1), (78, .iaload, 1), (79, .iastore, 1), (80, .aload_n 0, 1), (81, .getfield 19, 3), (84, .iload_n 1, 1), (85, .aload_n 0, 1), (86, .getfield 44, 3), (89, .iload_n 1, 1), (90, .iaload, 1), (91, .iastore, 1), (92, .iinc 1 1, 3), (95, .goto (-32), 3), (98, .iconst 0, 1), (99, .istore_n 1, 1), (100, .iload_n 1, 1), (101, .bipush 6, 2), (103, .if_icmp .ge 45, 3), (106, .aload_n 0, 1), (107, .getfield 25, 3), (110, .iload_n 1, 1), (111, .aload_n 0, 1), (112, .getfield 47, 3), (115, .iload_n 1, 1), (116, .iaload, 1), (117, .iastore, 1), (118, .aload_n 0, 1), (119, .getfield 28, 3), (122, .iload_n 1, 1), (123, .aload_n 0, 1), (124, .getfield 50, 3), (127, .iload_n 1, 1), (128, .iaload, 1), (129, .iastore, 1), (130, .aload_n 0, 1), (131, .getfield 31, 3), (134, .iload_n 1, 1), (135, .aload_n 0, 1), (136, .getfield 53, 3), (139, .iload_n 1, 1), (140, .iaload, 1), (141, .iastore, 1), (142, .iinc 1 1, 3), (145, .goto (-45), 3), (148, .aload_n 0, 1), (149, .getfield 103, 3), (152, .ireturn, 1)]
def qC122 : List Instr := [.aload 0, .getfield 278, .ifCond .eq 8, .aload 0, .getfield 279, .aload 0, .getfield 256, .if_icmp .eq 10, .iconst (-103), .ireturn, .aload 0, .aload 0, .getfield 280, .putfield 263, .aload 0, .aload 0, .getfield 281, .putfield 264, .aload 0, .aload 0, .getfield 282, .putfield 265, .aload 0, .aload 0, .getfield 283, .putfield 266, .aload 0, .aload 0, .getfield 284, .putfield 267, .iconst 0, .istore 1, .iload 1, .iconst 4, .if_icmp .ge 53, .aload 0, .getfield 260, .iload 1, .aload 0, .getfield 285, .iload 1, .iaload, .iastore, .aload 0, .getfield 261, .iload 1, .aload 0, .getfield 286, .iload 1, .iaload, .iastore, .iinc 1 1, .goto 32, .iconst 0, .istore 1, .iload 1, .iconst 6, .if_icmp .ge 84, .aload 0, .getfield 268, .iload 1, .aload 0, .getfield 287, .iload 1, .iaload, .iastore, .aload 0, .getfield 269, .iload 1, .aload 0, .getfield 288, .iload 1, .iaload, .iastore, .aload 0, .getfield 270, .iload 1, .aload 0, .getfield 289, .iload 1, .iaload, .iastore, .iinc 1 1, .goto 55, .aload 0, .getfield 266, .ireturn]
/-- 123: X5 howMany(I)I -/
def qR123 : List (Nat × Instr × Nat) := [(0, .iload_n 1, 1), (1, .tableswitch 114 0 9 #[55, 60, 65, 73, 81, 89, 94, 99, 104, 109], 55), (56, .aload_n 0, 1), (57, .getfield 88, 3), (60, .ireturn, 1), (61, .aload_n 0, 1), (62, .invokevirtual 203, 3), (65, .ireturn, 1), (66, .aload_n 0, 1), (67, .getfield 97, 3), (70, .invokestatic 200, 3), (73, .ireturn, 1), (74, .aload_n 0, 1), (75, .getfield 100, 3), (78, .invokestatic 200, 3), (81, .ireturn, 1), (82, .aload_n 0, 1), (83, .getfield 94, 3), (86, .invokestatic 200, 3), (89, .ireturn, 1), (90, .aload_n 0, 1), (91, .getfield 103, 3), (94, .ireturn, 1), (95, .aload_n 0, 1), (96, .getfield 106, 3), (99, .ireturn, 1), (100, .aload_n 0, 1), (101, .getfield 60, 3), (104, .ireturn, 1), (105, .aload_n 0, 1), (106, .getfield 91, 3), (109, .ireturn, 1), (110, .aload_n 0, 1), (111, .getfield 158, 3), (114, .ireturn, 1), (115, .bipush (-102), 2), (117, .ireturn, 1)]
def qC123 : List Instr := [.iload 1, .lookupswitch 35 #[(0, 2), (1, 5), (2, 8), (3, 12), (4, 16), (5, 20), (6, 23), (7, 26), (8, 29), (9, 32)], .aload 0, .getfield 257, .ireturn, .aload 0, .invokevirtual 30228, .ireturn, .aload 0, .getfield 264, .invokestatic 1201, .ireturn, .aload 0, .getfield 265, .invokestatic 1201, .ireturn, .aload 0, .getfield 263, .invokestatic 1201, .ireturn, .aload 0, .getfield 266, .ireturn, .aload 0, .getfield 267, .ireturn, .aload 0, .getfield 272, .ireturn, .aload 0, .getfield 256, .ireturn, .aload 0, .getfield 271, .ireturn, .iconst (-102), .ireturn]
/-- 124: X5 count(I)I -/
def qR124 : List (Nat × Instr × Nat) := [(0, .aload_n 0, 1), (1, .iload_n 1, 1), (2, .invokevirtual 230, 3), (5, .ireturn, 1)]
def qC124 : List Instr := [.aload 0, .iload 1, .invokevirtual 31524, .ireturn]
/-- 125: X5 mix(J)V -/
def qR125 : List (Nat × Instr × Nat) := [(0, .aload_n 0, 1), (1, .ldc2_w 233, 3), (4, .aload_n 0, 1), (5, .getfield 235, 3), (8, .lmul, 1), (9, .lload_n 1, 1), (10, .ladd, 1), (11, .putfield 235, 3), (14, .return_, 1)]
def qC125 : List Instr := [.aload 0, .jsr 31, .aload 0, .getfield 290, .lmul, .lload 1, .ladd, .putfield 290, .return_]
/-- 126: X5 digest()J -/
def qR126 : List (Nat × Instr × Nat) := [(0, .aload_n 0, 1), (1, .ldc2_w 238, 3), (4, .putfield 235, 3), (7, .iconst 0, 1), (8, .istore_n 1, 1), (9, .iload_n 1, 1), (10, .aload_n 0, 1), (11, .getfield 88, 3), (14, .if_icmp .ge 79, 3), (17, .iconst 0, 1), (18, .istore_n 2, 1), (19, .iload_n 2, 1), (20, .bipush 8, 2), (22, .if_icmp .ge 20, 3), (25, .aload_n 0, 1), (26, .aload_n 0, 1), (27, .iload_n 1, 1), (28, .iload_n 2, 1), (29, .invokevirtual 126, 3), (32, .i2l, 1), (33, .invokevirtual 240, 3), (36, .iinc 2 1, 3), (39, .goto (-20), 3), (42, .iconst 0, 1), (43, .istore_n 2, 1), (44, .iload_n 2, 1), (45, .aload_n 0, 1), (46, .getfield 88, 3), (49, .if_icmp .ge 38, 3), (52, .iload_n 2, 1), (53, .iload_n 1, 1), (54, .if_icmp .eq 27, 3), (57, .aload_n 0, 1), (58, .aload_n 0, 1), (59, .iload_n 1, 1), (60, .iload_n 2, 1), (61, .invokevirtual 164, 3), (64, .ifCond .eq 7, 3), (67, .lconst 0, 1), (68, .goto 10, 3), (71, .aload_n 0, 1), (72, .iload_n 1, 1), (73, .iload_n 2, 1), (74, .invokevirtual 167, 3), (77, .i2l, 1), (78, .invokevirtual 240, 3), (81, .iinc 2 1, 3), (84, .goto (-40), 3), (87, .iinc 1 1, 3), (90, .goto (-81), 3), (93, .iconst 0, 1), (94, .istore_n 1, 1), (95, .iload_n 1, 1), (96, .iconst 4, 1), (97, .if_icmp .ge 60, 3), (100, .aload_n 0, 1), (101, .getfield 88, 3), (104, .ifCond .le 53, 3), (107, .aload_n 0, 1), (108, .aload_n 0, 1), (109, .getfield 22, 3), (112, .iload_n 1, 1), (113, .iaload, 1), (114, .i2l, 1), (115, .invokevirtual 240, 3), (118, .aload_n 0, 1), (119, .aload_n 0, 1), (120, .getfield 94, 3), (123, .iload_n 1, 1), (124, .ishr, 1), (125, .iconst 1, 1), (126, .iand, 1), (127, .i2l, 1), (128, .invokevirtual 240, 3), (131, .aload_n 0, 1), (132, .aload_n 0, 1), (133, .iload_n 1, 1), (134, .invokevirtual 174, 3), (137, .i2l, 1), (138, .invokevirtual 240, 3), (141, .aload_n 0, 1), (142, .aload_n 0, 1), (143, .iload_n 1, 1), (144, .invokevirtual 182, 3), (147, .i2l, 1), (148, .invokevirtual 240, 3), (151, .iinc 1 1, 3), (154, .goto (-59), 3), (157, .iconst 0, 1), (158, .istore_n 1, 1), (159, .iload_n 1, 1), (160, .aload_n 0, 1), (161, .getfield 60, 3), (164, .if_icmp .ge 20, 3), (167, .aload_n 0, 1), (168, .aload_n 0, 1), (169, .getfield 34, 3), (172, .iload_n 1, 1), (173, .baload, 1), (174, .i2l, 1), (175, .invokevirtual 240, 3), (178, .iinc 1 1, 3), (181, .goto (-22), 3), (184, .iconst 0, 1), (185, .istore_n 1, 1), (186, .iload_n 1, 1), (187, .bipush 10, 2), (189, .if_icmp .ge 19, 3), (192, .aload_n 0, 1), (193, .aload_n 0, 1), (194, .iload_n 1, 1), (195, .invokevirtual 230, 3), (198, .i2l, 1), (199, .invokevirtual 240, 3), (202, .iinc 1 1, 3), (205, .goto (-19), 3), (208, .aload_n 0, 1), (209, .getfield 235, 3), (212, .lreturn, 1)]
def qC126 : List Instr := [.aload 0, .jsr 991, .putfield 290, .iconst 0, .istore 1, .iload 1, .aload 0, .getfield 257, .if_icmp .ge 50, .iconst 0, .istore 2, .iload 2, .iconst 8, .if_icmp .ge 23, .aload 0, .aload 0, .iload 1, .iload 2, .invokevirtual 23348, .i2l, .invokevirtual 32036, .iinc 2 1, .goto 11, .iconst 0, .istore 2, .iload 2, .aload 0, .getfield 257, .if_icmp .ge 48, .iload 2, .iload 1, .if_icmp .eq 46, .aload 0, .aload 0, .iload 1, .iload 2, .invokevirtual 27444, .ifCond .eq 40, .jsr 0, .goto 45, .aload 0, .iload 1, .iload 2, .invokevirtual 27188, .i2l, .invokevirtual 32036, .iinc 2 1, .goto 25, .iinc 1 1, .goto 5, .iconst 0, .istore 1, .iload 1, .iconst 4, .if_icmp .ge 88, .aload 0, .getfield 257, .ifCond .le 88, .aload 0, .aload 0, .getfield 262, .iload 1, .iaload, .i2l, .invokevirtual 32036, .aload 0, .aload 0, .getfield 263, .iload 1, .ishr, .iconst 1, .iand, .i2l, .invokevirtual 32036, .aload 0, .aload 0, .iload 1, .invokevirtual 28708, .i2l, .invokevirtual 32036, .aload 0, .aload 0, .iload 1, .invokevirtual 29476, .i2l, .invokevirtual 32036, .iinc 1 1, .goto 52, .iconst 0, .istore 1, .iload 1, .aload 0, .getfield 272, .if_icmp .ge 103, .aload 0, .aload 0, .getfield 273, .iload 1, .baload, .i2l, .invokevirtual 32036, .iinc 1 1, .goto 90, .iconst 0, .istore 1, .iload 1, .iconst 10, .if_icmp .ge 116, .aload 0, .aload 0, .iload 1, .invokevirtual 31524, .i2l, .invokevirtual 32036, .iinc 1 1, .goto 105, .aload 0, .getfield 290, .lreturn]
/-- 127: J0 isLatin1()Z -/
def qR127 : List (Nat × Instr × Nat) := [(0, .getstatic 38, 3), (3, .ifCond .eq 14, 3), (6, .aload_n 0, 1), (7, .getfield 15, 3), (10, .ifCond .ne 7, 3), (13, .iconst 1, 1), (14, .goto 4, 3), (17, .iconst 0, 1), (18, .ireturn, 1)]
def qC127 : List Instr := [.getstatic 0, .ifCond .eq 7, .aload 0, .getfield 321, .ifCond .ne 7, .iconst 1, .goto 8, .iconst 0, .ireturn]
/-- 128: J0 coder()B -/
def qR128 : List (Nat × Instr × Nat) := [(0, .getstatic 38, 3), (3, .ifCond .eq 10, 3), (6, .aload_n 0, 1), (7, .getfield 15, 3), (10, .goto 4, 3), (13, .iconst 1, 1), (14, .ireturn, 1)]
def qC128 : List Instr := [.getstatic 0, .ifCond .eq 5, .aload 0, .getfield 321, .goto 6, .iconst 1, .ireturn]
/-- 129: J0 length()I -/
def qR129 : List (Nat × Instr × Nat) := [(0, .aload_n 0, 1), (1, .getfield 9, 3), (4, .arraylength, 1), (5, .aload_n 0, 1), (6, .invokevirtual 335, 3), (9, .ishr, 1), (10, .ireturn, 1)]
def qC129 : List Instr := [.aload 0, .getfield 320, .arraylength, .aload 0, .invokevirtual 32789, .ishr, .ireturn]
/-- 130: J1 canEncode(I)Z -/
def qR130 : List (Nat × Instr × Nat) := [(0, .iload_n 0, 1), (1, .ifCond .lt 14, 3), (4, .iload_n 0, 1), (5, .sipush 255, 3), (8, .if_icmp .gt 7, 3), (11, .iconst 1, 1), (12, .goto 4, 3), (15, .iconst 0, 1), (16, .ireturn, 1)]
def qC130 : List Instr := [.iload 0, .ifCond .lt 7, .iload 0, .iconst 255, .if_icmp .gt 7, .iconst 1, .goto 8, .iconst 0, .ireturn]
/-- 131: J1 indexOfChar([BIII)I -/
def qR131 : List (Nat × Instr × Nat) := [(0, .iload_n 1, 1), (1, .i2b, 1), (2, .istore 4, 2), (4, .iload_n 2, 1), (5, .istore 5, 2), (7, .iload 5, 2), (9, .iload_n 3, 1), (10, .if_icmp .ge 21, 3), (13, .aload_n 0, 1), (14, .iload 5, 2), (16, .baload, 1), (17, .iload 4, 2), (19, .if_icmp .ne 6, 3), (22, .iload 5, 2), (24, .ireturn, 1), (25, .iinc 5 1, 3), (28, .goto (-21), 3), (31, .iconst (-1), 1), (32, .ireturn, 1)]
def qC131 : List Instr := [.iload 1, .i2b, .istore 4, .iload 2, .istore 5, .iload 5, .iload 3, .if_icmp .ge 17, .aload 0, .iload 5, .baload, .iload 4, .if_icmp .ne 15, .iload 5, .ireturn, .iinc 5 1, .goto 5, .iconst (-1), .ireturn]
/-- 132: J1 indexOf([BIII)I -/
def qR132 : List (Nat × Instr × Nat) := [(0, .iload_n 1, 1), (1, .invokestatic 88, 3), (4, .ifCond .ne 5, 3), (7, .iconst (-1), 1), (8, .ireturn, 1), (9, .iload_n 2, 1), (10, .iconst 0, 1), (11, .invokestatic 92, 3), (14, .istore_n 2, 1), (15, .iload_n 3, 1), (16, .aload_n 0, 1), (17, .arraylength, 1), (18, .invokestatic 38, 3), (21, .istore_n 3, 1), (22, .iload_n 2, 1), (23, .iload_n 3, 1), (24, .if_icmp .lt 5, 3), (27, .iconst (-1), 1), (28, .ireturn, 1), (29, .aload_n 0, 1), (30, .iload_n 1, 1), (31, .iload_n 2, 1), (32, .iload_n 3, 1), (33, .invokestatic 95, 3), (36, .ireturn, 1)]
def qC132 : List Instr := [.iload 1, .invokestatic 2081, .ifCond .ne 5, .iconst (-1), .ireturn, .iload 2, .iconst 0, .fadd, .istore 2, .iload 3, .aload 0, .arraylength, .fsub, .istore 3, .iload 2, .iload 3, .if_icmp .lt 19, .iconst (-1), .ireturn, .aload 0, .iload 1, .iload 2, .iload 3, .invokestatic 2100, .ireturn]
/-- 133: J0 indexOf(II)I -/
def qR133 : List (Nat × Instr × Nat) := [(0, .aload_n 0, 1), (1, .invokevirtual 492, 3), (4, .ifCond .eq 19, 3), (7, .aload_n 0, 1), (8, .getfield 9, 3), (11, .iload_n 1, 1), (12, .iload_n 2, 1), (13, .aload_n 0, 1), (14, .invokevirtual 505, 3), (17, .invokestatic 637, 3), (20, .goto 16, 3), (23, .aload_n 0, 1), (24, .getfield 9, 3), (27, .iload_n 1, 1), (28, .iload_n 2, 1), (29, .aload_n 0, 1), (30, .invokevirtual 505, 3), (33, .invokestatic 640, 3), (36, .ireturn, 1)]
def qC133 : List Instr := [.aload 0, .invokevirtual 32533, .ifCond .eq 11, .aload 0, .getfield 320, .iload 1, .iload 2, .aload 0, .invokevirtual 33045, .invokestatic 2116, .goto 18, .aload 0, .getfield 320, .iload 1, .iload 2, .aload 0, .invokevirtual 33045, .nop, .ireturn]
/-- 134: J0 indexOf(I)I -/
def qR134 : List (Nat × Instr × Nat) := [(0, .aload_n 0, 1), (1, .iload_n 1, 1), (2, .iconst 0, 1), (3, .invokevirtual 633, 3), (6, .ireturn, 1)]
def qC134 : List Instr := [.aload 0, .iload 1, .iconst 0, .invokevirtual 34101, .ireturn]
/-- 135: J6 bitCount(I)I -/
def qR135 : List (Nat × Instr × Nat) := [(0, .iload_n 0, 1), (1, .iload_n 0, 1), (2, .iconst 1, 1), (3, .iushr, 1), (4, .ldc_w 265, 3), (7, .iand, 1), (8, .isub, 1), (9, .istore_n 0, 1), (10, .iload_n 0, 1), (11, .ldc_w 266, 3), (14, .iand, 1), (15, .iload_n 0, 1), (16, .iconst 2, 1), (17, .iushr, 1), (18, .ldc_w 266, 3), (21, .iand, 1), (22, .iadd, 1), (23, .istore_n 0, 1), (24, .iload_n 0, 1), (25, .iload_n 0, 1), (26, .iconst 4, 1), (27, .iushr, 1), (28, .iadd, 1), (29, .ldc_w 267, 3), (32, .iand, 1), (33, .istore_n 0, 1), (34, .iload_n 0, 1), (35, .iload_n 0, 1), (36, .bipush 8, 2), (38, .iushr, 1), (39, .iadd, 1), (40, .istore_n 0, 1), (41, .iload_n 0, 1), (42, .iload_n 0, 1), (43, .bipush 16, 2), (45, .iushr, 1), (46, .iadd, 1), (47, .istore_n 0, 1), (48, .iload_n 0, 1), (49, .bipush 63, 2), (51, .iand, 1), (52, .ireturn, 1)]
def qC135 : List Instr := [.iload 0, .iload 0, .iconst 1, .iushr, .iconst 1431655765, .iand, .isub, .istore 0, .iload 0, .iconst 858993459, .iand, .iload 0, .iconst 2, .iushr, .iconst 858993459, .iand, .iadd, .istore 0, .iload 0, .iload 0, .iconst 4, .iushr, .iadd, .iconst 252645135, .iand, .istore 0, .iload 0, .iload 0, .iconst 8, .iushr, .iadd, .istore 0, .iload 0, .iload 0, .iconst 16, .iushr, .iadd, .istore 0, .iload 0, .iconst 63, .iand, .ireturn]
/-- 136: J9 max(II)I -/
def qR136 : List (Nat × Instr × Nat) := [(0, .iload_n 0, 1), (1, .iload_n 1, 1), (2, .if_icmp .lt 7, 3), (5, .iload_n 0, 1), (6, .goto 4, 3), (9, .iload_n 1, 1), (10, .ireturn, 1)]
def qC136 : List Instr := [.iload 0, .iload 1, .if_icmp .lt 5, .iload 0, .goto 6, .iload 1, .ireturn]
/-- 137: J9 min(II)I -/
def qR137 : List (Nat × Instr × Nat) := [(0, .iload_n 0, 1), (1, .iload_n 1, 1), (2, .if_icmp .gt 7, 3), (5, .iload_n 0, 1), (6, .goto 4, 3), (9, .iload_n 1, 1), (10, .ireturn, 1)]
def qC137 : List Instr := [.iload 0, .iload 1, .if_icmp .gt 5, .iload 0, .goto 6, .iload 1, .ireturn]
/-- 138: L law([I)Z -/
def qR138 : List (Nat × Instr × Nat) := [(0, .new 7, 3), (3, .dup, 1), (4, .invokespecial 9, 3), (7, .astore_n 1, 1), (8, .new 10, 3), (11, .dup, 1), (12, .invokespecial 12, 3), (15, .astore_n 2, 1), (16, .iconst 0, 1), (17, .istore_n 3, 1), (18, .iload_n 3, 1), (19, .aload_n 0, 1), (20, .arraylength, 1), (21, .iconst 4, 1), (22, .isub, 1), (23, .if_icmp .gt 644, 3), (26, .aload_n 0, 1), (27, .iload_n 3, 1), (28, .iaload, 1), (29, .bipush 31, 2), (31, .iand, 1), (32, .tableswitch 629 0 19 #[96, 119, 132, 145, 158, 191, 224, 247, 296, 339, 372, 405, 464, 477, 500, 523, 566, 579, 592, 615], 96), (128, .aload_n 1, 1), (129, .aload_n 0, 1), (130, .iload_n 3, 1), (131, .iconst 1, 1), (132, .iadd, 1), (133, .iaload, 1), (134, .invokevirtual 13, 3), (137, .aload_n 2, 1), (138, .aload_n 0, 1), (139, .iload_n 3, 1), (140, .iconst 1, 1), (141, .iadd, 1), (142, .iaload, 1), (143, .invokevirtual 17, 3), (146, .if_icmp .eq 515, 3), (149, .iconst 0, 1), (150, .ireturn, 1), (151, .aload_n 1, 1), (152, .invokevirtual 18, 3), (155, .aload_n 2, 1), (156, .invokevirtual 22, 3), (159, .if_icmp .eq 502, 3), (162, .iconst 0, 1), (163, .ireturn, 1), (164, .aload_n 1, 1), (165, .invokevirtual 23, 3), (168, .aload_n 2, 1), (169, .invokevirtual 26, 3), (172, .if_icmp .eq 489, 3), (175, .iconst 0, 1), (176, .ireturn, 1), (177, .aload_n 1, 1), (178, .invokevirtual 27, 3), (181, .aload_n 2, 1), (182, .invokevirtual 30, 3), (185, .if_icmp .eq 476, 3), (188, .iconst 0, 1), (189, .ireturn, 1), (190, .aload_n 1, 1), (191, .aload_n 0, 1), (192, .iload_n 3, 1), (193, .iconst 1, 1), (194, .iadd, 1), (195, .iaload, 1), (196, .aload_n 0, 1), (197, .iload_n 3, 1), (198, .iconst 2, 1), (199, .iadd, 1), (200, .iaload, 1), (201, .invokevirtual 31, 3), (204, .aload_n 2, 1), (205, .aload_n 0, 1), (206, .iload_n 3, 1), (207, .iconst 1, 1), (208, .iadd, 1), (209, .iaload, 1), (210, .aload_n 0, 1), (211, .iload_n 3, 1), (212, .iconst 2, 1), (213, .iadd, 1), (214, .iaload, 1), (215, .invokevirtual 35, 3), (218, .if_icmp .eq 443, 3), (221, .iconst 0, 1), (222, .ireturn, 1), (223, .aload_n 1, 1), (224, .aload_n 0, 1), (225, .iload_n 3, 1), (226, .iconst 1, 1), (227, .iadd, 1), (228, .iaload, 1), (229, .aload_n 0, 1), (230, .iload_n 3, 1), (231, .iconst 2, 1), (232, .iadd, 1), (233, .iaload, 1), (234, .invokevirtual 36, 3), (237, .aload_n 2, 1), (238, .aload_n 0, 1), (239, .iload_n 3, 1), (240, .iconst 1, 1), (241, .iadd, 1), (242, .iaload, 1), (243, .aload_n 0, 1), (244, .iload_n 3, 1), (245, .iconst 2, 1), (246, .iadd, 1), (247, .iaload, 1), (248, .invokevirtual 39, 3), (251, .if_icmp .eq 410, 3), (254, .iconst 0, 1), (255, .ireturn, 1), (256, .aload_n 1, 1), (257, .aload_n 0, 1), (258, .iload_n 3, 1), (259, .iconst 1, 1), (260, .iadd, 1), (261, .iaload, 1), (262, .invokevirtual 40, 3), (265, .aload_n 2, 1), (266, .aload_n 0, 1), (267, .iload_n 3, 1), (268, .iconst 1, 1), (269, .iadd, 1), (270, .iaload, 1), (271, .invokevirtual 43, 3), (274, .if_icmp .eq 387, 3), (277, .iconst 0, 1), (278, .ireturn, 1), (279, .aload_n 1, 1), (280, .aload_n 0, 1), (281, .iload_n 3, 1), (282, .iconst 1, 1), (283, .iadd, 1), (284, .iaload, 1), (285, .aload_n 0, 1), (286, .iload_n 3, 1), (287, .iconst 2, 1), (288, .iadd, 1), (289, .iaload, 1), (290, .ifCond .eq 7, 3), (293, .iconst 1, 1), (294, .goto 4, 3), (297, .iconst 0, 1), (298, .invokevirtual 44, 3), (301, .aload_n 2, 1), (302, .aload_n 0, 1), (303, .iload_n 3, 1), (304, .iconst 1, 1), (305, .iadd, 1), (306, .iaload, 1), (307, .aload_n 0, 1), (308, .iload_n 3, 1), (309, .iconst 2, 1), (310, .iadd, 1), (311, .iaload, 1), (312, .ifCond .eq 7, 3), (315, .iconst 1, 1), (316, .goto 4, 3), (319, .iconst 0, 1), (320, .invokevirtual 48, 3), (323, .if_icmp .eq 338, 3), (326, .iconst 0, 1), (327, .ireturn, 1), (328, .aload_n 1, 1), (329, .aload_n 0, 1), (330, .iload_n 3, 1), (331, .iconst 1, 1), (332, .iadd, 1), (333, .iaload, 1), (334, .aload_n 0, 1), (335, .iload_n 3, 1), (336, .iconst 2, 1), (337, .iadd, 1), (338, .iaload, 1), (339, .aload_n 0, 1), (340, .iload_n 3, 1), (341, .iconst 3, 1), (342, .iadd, 1), (343, .iaload, 1), (344, .invokevirtual 49, 3), (347, .aload_n 2, 1), (348, .aload_n 0, 1), (349, .iload_n 3, 1), (350, .iconst 1, 1), (351, .iadd, 1), (352, .iaload, 1), (353, .aload_n 0, 1), (354, .iload_n 3, 1), (355, .iconst 2, 1), (356, .iadd, 1), (357, .iaload, 1), (358, .aload_n 0, 1), (359, .iload_n 3, 1), (360, .iconst 3, 1), (361, .iadd, 1), (362, .iaload, 1), (363, .invokevirtual 53, 3), (366, .if_icmp .eq 295, 3), (369, .iconst 0, 1), (370, .ireturn, 1), (371, .aload_n 1, 1), (372, .aload_n 0, 1), (373, .iload_n 3, 1), (374, .iconst 1, 1), (375, .iadd, 1), (376, .iaload, 1), (377, .aload_n 0, 1), (378, .iload_n 3, 1), (379, .iconst 2, 1), (380, .iadd, 1), (381, .iaload, 1), (382, .invokevirtual 54, 3), (385, .aload_n 2, 1), (386, .aload_n 0, 1), (387, .iload_n 3, 1), (388, .iconst 1, 1), (389, .iadd, 1), (390, .iaload, 1), (391, .aload_n 0, 1), (392, .iload_n 3, 1), (393, .iconst 2, 1), (394, .iadd, 1), (395, .iaload, 1), (396, .invokevirtual 57, 3), (399, .if_icmp .eq 262, 3), (402, .iconst 0, 1), (403, .ireturn, 1), (404, .aload_n 1, 1), (405, .aload_n 0, 1), (406, .iload_n 3, 1), (407, .iconst 1, 1), (408, .iadd, 1), (409, .iaload, 1), (410, .aload_n 0, 1), (411, .iload_n 3, 1), (412, .iconst 2, 1), (413, .iadd, 1), (414, .iaload, 1), (415, .invokevirtual 58, 3), (418, .aload_n 2, 1), (419, .aload_n 0, 1), (420, .iload_n 3, 1), (421, .iconst 1, 1), (422, .iadd, 1), (423, .iaload, 1), (424, .aload_n 0, 1), (425, .iload_n 3, 1), (426, .iconst 2, 1), (427, .iadd, 1), (428, .iaload, 1), (429, .invokevirtual 61, 3), (432, .if_icmp .eq 229, 3), (435, .iconst 0, 1), (436, .ireturn, 1), (437, .aload_n 1, 1), (438, .aload_n 0, 1), (439, .iload_n 3, 1), (440, .iconst 1, 1), (441, .iadd, 1), (442, .iaload, 1), (443, .aload_n 0, 1), (444, .iload_n 3, 1), (445, .iconst 2, 1), (446, .iadd, 1), (447, .iaload, 1), (448, .aload_n 0, 1), (449, .iload_n 3, 1), (450, .iconst 3, 1), (451, .iadd, 1), (452, .iaload, 1), (453, .ifCond .eq 7, 3), (456, .iconst 1, 1), (457, .goto 4, 3), (460, .iconst 0, 1), (461, .invokevirtual 62, 3), (464, .aload_n 2, 1), (465, .aload_n 0, 1), (466, .iload_n 3, 1), (467, .iconst 1, 1), (468, .iadd, 1), (469, .iaload, 1), (470, .aload_n 0, 1), (471, .iload_n 3, 1), (472, .iconst 2, 1), (473, .iadd, 1), (474, .iaload, 1), (475, .aload_n 0, 1), (476, .iload_n 3, 1), (477, .iconst 3, 1), (478, .iadd, 1), (479, .iaload, 1), (480, .ifCond .eq 7, 3), (483, .iconst 1, 1), (484, .goto 4, 3), (487, .iconst 0, 1), (488, .invokevirtual 66, 3), (491, .if_icmp .eq 170, 3), (494, .iconst 0, 1), (495, .ireturn, 1), (496, .aload_n 1, 1), (497, .invokevirtual 67, 3), (500, .aload_n 2, 1), (501, .invokevirtual 70, 3), (504, .if_icmp .eq 157, 3), (507, .iconst 0, 1), (508, .ireturn, 1), (509, .aload_n 1, 1), (510, .aload_n 0, 1), (511, .iload_n 3, 1), (512, .iconst 1, 1), (513, .iadd, 1), (514, .iaload, 1), (515, .invokevirtual 71, 3), (518, .aload_n 2, 1), (519, .aload_n 0, 1), (520, .iload_n 3, 1), (521, .iconst 1, 1), (522, .iadd, 1), (523, .iaload, 1), (524, .invokevirtual 74, 3), (527, .if_icmp .eq 134, 3), (530, .iconst 0, 1), (531, .ireturn, 1), (532, .aload_n 1, 1), (533, .aload_n 0, 1), (534, .iload_n 3, 1), (535, .iconst 1, 1), (536, .iadd, 1), (537, .iaload, 1), (538, .invokevirtual 75, 3), (541, .aload_n 2, 1), (542, .aload_n 0, 1), (543, .iload_n 3, 1), (544, .iconst 1, 1), (545, .iadd, 1), (546, .iaload, 1), (547, .invokevirtual 78, 3), (550, .if_icmp .eq 111, 3), (553, .iconst 0, 1), (554, .ireturn, 1), (555, .aload_n 1, 1), (556, .aload_n 0, 1), (557, .iload_n 3, 1), (558, .iconst 1, 1), (559, .iadd, 1), (560, .iaload, 1), (561, .aload_n 0, 1), (562, .iload_n 3, 1), (563, .iconst 2, 1), (564, .iadd, 1), (565, .iaload, 1), (566, .aload_n 0, 1), (567, .iload_n 3, 1), (568, .iconst 3, 1), (569, .iadd, 1), (570, .iaload, 1), (571, .invokevirtual 79, 3), (574, .aload_n 2, 1), (575, .aload_n 0, 1), (576, .iload_n 3, 1), (577, .iconst 1, 1), (578, .iadd, 1), (579, .iaload, 1), (580, .aload_n 0, 1), (581, .iload_n 3, 1), (582, .iconst 2, 1), (583, .iadd, 1), (584, .iaload, 1), (585, .aload_n 0, 1), (586, .iload_n 3, 1), (587, .iconst 3, 1), (588, .iadd, 1), (589, .iaload, 1), (590, .invokevirtual 82, 3), (593, .if_icmp .eq 68, 3), (596, .iconst 0, 1), (597, .ireturn, 1), (598, .aload_n 1, 1), (599, .invokevirtual 83, 3), (602, .aload_n 2, 1), (603, .invokevirtual 86, 3), (606, .if_icmp .eq 55, 3), (609, .iconst 0, 1), (610, .ireturn, 1), (611, .aload_n 1, 1), (612, .invokevirtual 87, 3), (615, .aload_n 2, 1), (616, .invokevirtual 90, 3), (619, .if_icmp .eq 42, 3), (622, .iconst 0, 1), (623, .ireturn, 1), (624, .aload_n 1, 1), (625, .aload_n 0, 1), (626, .iload_n 3, 1), (627, .iconst 1, 1), (628, .iadd, 1), (629, .iaload, 1), (630, .invokevirtual 91, 3), (633, .aload_n 2, 1), (634, .aload_n 0, 1), (635, .iload_n 3, 1), (636, .iconst 1, 1), (637, .iadd, 1), (638, .iaload, 1), (639, .invokevirtual 94, 3), (642, .if_icmp .eq 19, 3), (645, .iconst 0, 1), (646, .ireturn, 1), (647, .aload_n 1, 1), (648, .invokevirtual 95, 3), (651, .aload_n 2, 1), (652, .invokevirtual 99, 3), (655, .lcmp, 1), (656, .ifCond .eq 5, 3), (659, .iconst 0, 1), (660, .ireturn, 1), (661, .iinc 3 4, 3), (664, .goto (-646), 3), (667, .iconst 1, 1), (668, .ireturn, 1)]
def qC138 : List Instr := [.nop, .dup, .nop, .astore 1, .nop, .dup, .nop, .astore 2, .iconst 0, .istore 3, .iload 3, .aload 0, .arraylength, .iconst 4, .isub, .if_icmp .gt 421, .aload 0, .iload 3, .iaload, .iconst 31, .iand, .lookupswitch 419 #[(0, 22), (1, 39), (2, 46), (3, 53), (4, 60), (5, 87), (6, 114), (7, 131), (8, 166), (9, 203), (10, 230), (11, 257), (12, 302), (13, 309), (14, 326), (15, 343), (16, 380), (17, 387), (18, 394), (19, 411)], .aload 1, .aload 0, .iload 3, .iconst 1, .iadd, .iaload, .invokevirtual 11555, .aload 2, .aload 0, .iload 3, .iconst 1, .iadd, .iaload, .invokevirtual 19492, .if_icmp .eq 419, .iconst 0, .ireturn, .aload 1, .invokevirtual 11795, .aload 2, .invokevirtual 19732, .if_icmp .eq 419, .iconst 0, .ireturn, .aload 1, .invokevirtual 12051, .aload 2, .invokevirtual 21268, .if_icmp .eq 419, .iconst 0, .ireturn, .aload 1, .invokevirtual 12307, .aload 2, .invokevirtual 21524, .if_icmp .eq 419, .iconst 0, .ireturn, .aload 1, .aload 0, .iload 3, .iconst 1, .iadd, .iaload, .aload 0, .iload 3, .iconst 2, .iadd, .iaload, .invokevirtual 12595, .aload 2, .aload 0, .iload 3, .iconst 1, .iadd, .iaload, .aload 0, .iload 3, .iconst 2, .iadd, .iaload, .invokevirtual 23604, .if_icmp .eq 419, .iconst 0, .ireturn, .aload 1, .aload 0, .iload 3, .iconst 1, .iadd, .iaload, .aload 0, .iload 3, .iconst 2, .iadd, .iaload, .invokevirtual 12851, .aload 2, .aload 0, .iload 3, .iconst 1, .iadd, .iaload, .aload 0, .iload 3, .iconst 2, .iadd, .iaload, .invokevirtual 23860, .if_icmp .eq 419, .iconst 0, .ireturn, .aload 1, .aload 0, .iload 3, .iconst 1, .iadd, .iaload, .invokevirtual 13091, .aload 2, .aload 0, .iload 3, .iconst 1, .iadd, .iaload, .invokevirtual 24100, .if_icmp .eq 419, .iconst 0, .ireturn, .aload 1, .aload 0, .iload 3, .iconst 1, .iadd, .iaload, .aload 0, .iload 3, .iconst 2, .iadd, .iaload, .ifCond .eq 145, .iconst 1, .goto 146, .iconst 0, .invokevirtual 13363, .aload 2, .aload 0, .iload 3, .iconst 1, .iadd, .iaload, .aload 0, .iload 3, .iconst 2, .iadd, .iaload, .ifCond .eq 161, .iconst 1, .goto 162, .iconst 0, .invokevirtual 24372, .if_icmp .eq 419, .iconst 0, .ireturn, .aload 1, .aload 0, .iload 3, .iconst 1, .iadd, .iaload, .aload 0, .iload 3, .iconst 2, .iadd, .iaload, .aload 0, .iload 3, .iconst 3, .iadd, .iaload, .invokevirtual 13635, .aload 2, .aload 0, .iload 3, .iconst 1, .iadd, .iaload, .aload 0, .iload 3, .iconst 2, .iadd, .iaload, .aload 0, .iload 3, .iconst 3, .iadd, .iaload, .invokevirtual 25412, .if_icmp .eq 419, .iconst 0, .ireturn, .aload 1, .aload 0, .iload 3, .iconst 1, .iadd, .iaload, .aload 0, .iload 3, .iconst 2, .iadd, .iaload, .invokevirtual 13875, .aload 2, .aload 0, .iload 3, .iconst 1, .iadd, .iaload, .aload 0, .iload 3, .iconst 2, .iadd, .iaload, .invokevirtual 26932, .if_icmp .eq 419, .iconst 0, .ireturn, .aload 1, .aload 0, .iload 3, .iconst 1, .iadd, .iaload, .aload 0, .iload 3, .iconst 2, .iadd, .iaload, .invokevirtual 14131, .aload 2, .aload 0, .iload 3, .iconst 1, .iadd, .iaload, .aload 0, .iload 3, .iconst 2, .iadd, .iaload, .invokevirtual 27700, .if_icmp .eq 419, .iconst 0, .ireturn, .aload 1, .aload 0, .iload 3, .iconst 1, .iadd, .iaload, .aload 0, .iload 3, .iconst 2, .iadd, .iaload, .aload 0, .iload 3, .iconst 3, .iadd, .iaload, .ifCond .eq 276, .iconst 1, .goto 277, .iconst 0, .invokevirtual 14403, .aload 2, .aload 0, .iload 3, .iconst 1, .iadd, .iaload, .aload 0, .iload 3, .iconst 2, .iadd, .iaload, .aload 0, .iload 3, .iconst 3, .iadd, .iaload, .ifCond .eq 297, .iconst 1, .goto 298, .iconst 0, .invokevirtual 27972, .if_icmp .eq 419, .iconst 0, .ireturn, .aload 1, .invokevirtual 14611, .aload 2, .invokevirtual 28180, .if_icmp .eq 419, .iconst 0, .ireturn, .aload 1, .aload 0, .iload 3, .iconst 1, .iadd, .iaload, .invokevirtual 14883, .aload 2, .aload 0, .iload 3, .iconst 1, .iadd, .iaload, .invokevirtual 28964, .if_icmp .eq 419, .iconst 0, .ireturn, .aload 1, .aload 0, .iload 3, .iconst 1, .iadd, .iaload, .invokevirtual 15139, .aload 2, .aload 0, .iload 3, .iconst 1, .iadd, .iaload, .invokevirtual 29732, .if_icmp .eq 419, .iconst 0, .ireturn, .aload 1, .aload 0, .iload 3, .iconst 1, .iadd, .iaload, .aload 0, .iload 3, .iconst 2, .iadd, .iaload, .aload 0, .iload 3, .iconst 3, .iadd, .iaload, .invokevirtual 15427, .aload 2, .aload 0, .iload 3, .iconst 1, .iadd, .iaload, .aload 0, .iload 3, .iconst 2, .iadd, .iaload, .aload 0, .iload 3, .iconst 3, .iadd, .iaload, .invokevirtual 30788, .if_icmp .eq 419, .iconst 0, .ireturn, .aload 1, .invokevirtual 15635, .aload 2, .invokevirtual 30996, .if_icmp .eq 419, .iconst 0, .ireturn, .aload 1, .invokevirtual 15891, .aload 2, .invokevirtual 31252, .if_icmp .eq 419, .iconst 0, .ireturn, .aload 1, .aload 0, .iload 3, .iconst 1, .iadd, .iaload, .invokevirtual 16163, .aload 2, .aload 0, .iload 3, .iconst 1, .iadd, .iaload, .invokevirtual 31780, .if_icmp .eq 419, .iconst 0, .ireturn, .aload 1, .invokevirtual 16403, .aload 2, .invokevirtual 32276, .lcmp, .ifCond .eq 419, .iconst 0, .ireturn, .iinc 3 4, .goto 10, .iconst 1, .ireturn]
def qyL : List MethodName := [yX1_get, yX1_put, yX2_add, yX2_at, yX2_digitAt, yX2_kindAt, yX2_firstFault, yX2_isCourt, yX2_fitsPeople, yX2_fitsAmounts, yX2_isDigit, yX0_read, yX0_readPerson, yX0_enoughOf, yX0_sumOf, yX0_isPerson, yX0_isPair, yX0_isSign, yX0_kindOf, yX0_needOf, yX0_amountOf, yX0_firstKnownTo, yX0_isA, yX0_together, yX0_infers, yX0_inferringAmounts, yX3_open, yX3_copy, yX3_knownTo, yX3_knows, yX3_isHanged, yX3_hasSaid, yX3_isForbidden, yX3_setForbidden, yX3_wordsOf, yX3_howManyInfer, yX3_learn, yX3_canTell, yX3_makesInfer, yX3_hangsTeller, yX3_unpunished, yX3_pass, yX3_addAsked, yX3_askedAt, yX3_possibleAmounts, yX4_letter, yX4_blank, yX4_fault, yX4_court, yX4_about, yX4_as, yX4_sign, yX4_forbid, yX4_tell, yX4_plan, yX4_safe, yX4_ask, yX4_forget, yX4_tells, yX4_next, yX4_audiences, yX4_image, yX4_restore, yX4_count, yX4_digest, yX4_digestPerson, yX4_digestSign, yX4_fewestWords, yX4_findsWords, yX4_bestQuestion, yX4_holdAudiences, yX4_nextSeed, yX4_drawn, yX5_within, yX5_isIn, yX5_size, yX5_letter, yX5_blank, yX5_kindBy, yX5_isFigure, yX5_readOne, yX5_readSigns, yX5_read, yX5_fault, yX5_court, yX5_isOne, yX5_isSign, yX5_isKing, yX5_tellAll, yX5_isEnough, yX5_infers, yX5_oneNow, yX5_about, yX5_as, yX5_sign, yX5_forbid, yX5_canTell, yX5_isHanging, yX5_say, yX5_tell, yX5_save, yX5_load, yX5_mayWord, yX5_isPlan, yX5_planNow, yX5_plan, yX5_safeNow, yX5_isAnyHanged, yX5_safe, yX5_ask, yX5_forget, yX5_isAsked, yX5_tellsNow, yX5_tells, yX5_worstBy, yX5_nextNow, yX5_next, yX5_draw, yX5_inferring, yX5_audiencesNow, yX5_audiences, yX5_image, yX5_restore, yX5_howMany, yX5_count, yX5_mix, yX5_digest, yJ0_isLatin1_aae02, yJ0_coder_7d493, yJ0_length_8abf5, yJ1_canEncode_9a6ad, yJ1_indexOfChar_4cfef, yJ1_indexOf_4cfef, yJ0_indexOf_7cf53, yJ0_indexOf_0f7a4, yJ6_bitCount_0f7a4, Lib.Math.max.name, Lib.Math.min.name, yL_law]
def qbL : List ByteArray := [cX1_get, cX1_put, cX2_add, cX2_at, cX2_digitAt, cX2_kindAt, cX2_firstFault, cX2_isCourt, cX2_fitsPeople, cX2_fitsAmounts, cX2_isDigit, cX0_read, cX0_readPerson, cX0_enoughOf, cX0_sumOf, cX0_isPerson, cX0_isPair, cX0_isSign, cX0_kindOf, cX0_needOf, cX0_amountOf, cX0_firstKnownTo, cX0_isA, cX0_together, cX0_infers, cX0_inferringAmounts, cX3_open, cX3_copy, cX3_knownTo, cX3_knows, cX3_isHanged, cX3_hasSaid, cX3_isForbidden, cX3_setForbidden, cX3_wordsOf, cX3_howManyInfer, cX3_learn, cX3_canTell, cX3_makesInfer, cX3_hangsTeller, cX3_unpunished, cX3_pass, cX3_addAsked, cX3_askedAt, cX3_possibleAmounts, cX4_letter, cX4_blank, cX4_fault, cX4_court, cX4_about, cX4_as, cX4_sign, cX4_forbid, cX4_tell, cX4_plan, cX4_safe, cX4_ask, cX4_forget, cX4_tells, cX4_next, cX4_audiences, cX4_image, cX4_restore, cX4_count, cX4_digest, cX4_digestPerson, cX4_digestSign, cX4_fewestWords, cX4_findsWords, cX4_bestQuestion, cX4_holdAudiences, cX4_nextSeed, cX4_drawn, cX5_within, cX5_isIn, cX5_size, cX5_letter, cX5_blank, cX5_kindBy, cX5_isFigure, cX5_readOne, cX5_readSigns, cX5_read, cX5_fault, cX5_court, cX5_isOne, cX5_isSign, cX5_isKing, cX5_tellAll, cX5_isEnough, cX5_infers, cX5_oneNow, cX5_about, cX5_as, cX5_sign, cX5_forbid, cX5_canTell, cX5_isHanging, cX5_say, cX5_tell, cX5_save, cX5_load, cX5_mayWord, cX5_isPlan, cX5_planNow, cX5_plan, cX5_safeNow, cX5_isAnyHanged, cX5_safe, cX5_ask, cX5_forget, cX5_isAsked, cX5_tellsNow, cX5_tells, cX5_worstBy, cX5_nextNow, cX5_next, cX5_draw, cX5_inferring, cX5_audiencesNow, cX5_audiences, cX5_image, cX5_restore, cX5_howMany, cX5_count, cX5_mix, cX5_digest, cJ0_isLatin1_aae02, cJ0_coder_7d493, cJ0_length_8abf5, cJ1_canEncode_9a6ad, cJ1_indexOfChar_4cfef, cJ1_indexOf_4cfef, cJ0_indexOf_7cf53, cJ0_indexOf_0f7a4, cJ6_bitCount_0f7a4, Lib.Math.max.code, Lib.Math.min.code, cL_law]
def qnLL : List Nat := [2, 3, 2, 2, 2, 2, 4, 1, 2, 3, 4, 3, 5, 2, 4, 2, 3, 2, 2, 2, 2, 2, 4, 2, 3, 7, 3, 3, 2, 3, 2, 2, 2, 3, 2, 4, 3, 4, 5, 5, 6, 8, 4, 2, 7, 2, 2, 1, 1, 4, 3, 2, 4, 4, 5, 3, 4, 2, 2, 3, 5, 1, 1, 2, 4, 7, 6, 3, 13, 8, 8, 1, 2, 3, 2, 3, 2, 2, 1, 4, 2, 3, 3, 1, 4, 2, 2, 2, 4, 4, 2, 3, 3, 4, 2, 4, 4, 6, 8, 4, 2, 2, 5, 6, 5, 3, 5, 3, 3, 4, 2, 3, 5, 2, 9, 7, 2, 2, 3, 9, 4, 2, 2, 2, 2, 3, 3, 1, 1, 1, 1, 6, 4, 3, 2, 1, 2, 2, 4]
def qrTL : List (Option FieldType) := [some .int, some .int, none, some .int, some .int, some .int, some .int, some .boolean, some .boolean, some .boolean, some .boolean, none, none, some .int, some .int, some .boolean, some .boolean, some .boolean, some .int, some .int, some .int, some .int, some .boolean, some .int, some .boolean, some .int, none, none, some .int, some .boolean, some .boolean, some .boolean, some .boolean, none, some .int, some .int, none, some .boolean, some .boolean, some .boolean, some .int, some .int, none, some .int, some .int, some .int, some .int, some .int, some .int, some .int, some .int, some .int, some .int, some .int, some .int, some .int, some .int, some .int, some .int, some .int, some .int, some .int, some .int, some .int, some .long, some .long, some .long, some .int, some .boolean, some .int, some .int, some .int, some .int, some .boolean, some .boolean, some .int, some .int, some .int, some .int, some .boolean, some .int, some .int, some .int, some .int, some .int, some .boolean, some .boolean, some .boolean, some .int, some .boolean, some .boolean, some .int, some .int, some .int, some .int, some .int, some .boolean, some .boolean, some .int, some .int, none, none, some .boolean, some .boolean, some .int, some .int, some .int, some .boolean, some .int, some .int, some .int, some .boolean, some .int, some .int, some .int, some .int, some .int, some .int, some .int, some .int, some .int, some .int, some .int, some .int, some .int, none, some .long, some .boolean, some .byte, some .int, some .boolean, some .int, some .int, some .int, some .int, some .int, some .int, some .int, some .boolean]
def qownL : List Nat := [1, 1, 2, 2, 2, 2, 2, 2, 2, 2, 2, 0, 0, 0, 0, 0, 0, 0, 0, 0, 0, 0, 0, 0, 0, 0, 3, 3, 3, 3, 3, 3, 3, 3, 3, 3, 3, 3, 3, 3, 3, 3, 3, 3, 3, 4, 4, 4, 4, 4, 4, 4, 4, 4, 4, 4, 4, 4, 4, 4, 4, 4, 4, 4, 4, 4, 4, 4, 4, 4, 4, 4, 4, 5, 5, 5, 5, 5, 5, 5, 5, 5, 5, 5, 5, 5, 5, 5, 5, 5, 5, 5, 5, 5, 5, 5, 5, 5, 5, 5, 5, 5, 5, 5, 5, 5, 5, 5, 5, 5, 5, 5, 5, 5, 5, 5, 5, 5, 5, 5, 5, 5, 5, 5, 5, 5, 5, 6, 6, 6, 7, 7, 7, 6, 6, 8, 9, 9, 10]
def qstL : List Bool := [true, true, false, false, false, false, false, false, false, false, false, false, false, true, false, false, false, false, false, false, false, false, false, false, false, false, false, false, false, false, false, false, false, false, false, false, false, false, false, false, false, false, false, false, false, false, false, false, false, false, false, false, false, false, false, false, false, false, false, false, false, false, false, false, false, false, false, false, true, false, false, true, true, true, true, true, false, false, true, false, false, false, false, false, false, false, false, false, false, false, false, false, false, false, false, false, false, false, false, false, false, false, false, false, false, false, false, false, false, false, false, false, false, false, false, false, false, false, false, false, false, false, false, false, false, false, false, false, false, false, true, true, true, false, false, true, true, true, true]
def qarL : List Nat := [2, 3, 1, 1, 1, 1, 0, 0, 1, 2, 3, 1, 4, 2, 1, 1, 2, 1, 1, 1, 1, 1, 2, 1, 2, 3, 1, 1, 1, 2, 1, 1, 1, 2, 1, 1, 2, 3, 3, 4, 3, 4, 3, 1, 2, 1, 0, 0, 0, 2, 2, 1, 2, 3, 2, 2, 3, 0, 1, 1, 3, 0, 0, 1, 0, 2, 2, 1, 6, 2, 2, 1, 2, 3, 2, 1, 1, 0, 1, 3, 1, 1, 0, 0, 0, 1, 1, 1, 1, 2, 1, 2, 2, 2, 1, 2, 3, 3, 3, 3, 0, 0, 1, 3, 2, 2, 2, 2, 2, 3, 0, 0, 1, 1, 4, 1, 1, 1, 0, 3, 3, 0, 0, 1, 1, 1, 0, 0, 0, 0, 1, 4, 4, 2, 1, 1, 2, 2, 1]
def qRL : List (List (Nat × Instr × Nat)) := [qR0, qR1, qR2, qR3, qR4, qR5, qR6, qR7, qR8, qR9, qR10, qR11, qR12, qR13, qR14, qR15, qR16, qR17, qR18, qR19, qR20, qR21, qR22, qR23, qR24, qR25, qR26, qR27, qR28, qR29, qR30, qR31, qR32, qR33, qR34, qR35, qR36, qR37, qR38, qR39, qR40, qR41, qR42, qR43, qR44, qR45, qR46, qR47, qR48, qR49, qR50, qR51, qR52, qR53, qR54, qR55, qR56, qR57, qR58, qR59, qR60, qR61, qR62, qR63, qR64, qR65, qR66, qR67, qR68, qR69, qR70, qR71, qR72, qR73, qR74, qR75, qR76, qR77, qR78, qR79, qR80, qR81, qR82, qR83, qR84, qR85, qR86, qR87, qR88, qR89, qR90, qR91, qR92, qR93, qR94, qR95, qR96, qR97, qR98, qR99, qR100, qR101, qR102, qR103, qR104, qR105, qR106, qR107, qR108, qR109, qR110, qR111, qR112, qR113, qR114, qR115, qR116, qR117, qR118, qR119, qR120, qR121, qR122, qR123, qR124, qR125, qR126, qR127, qR128, qR129, qR130, qR131, qR132, qR133, qR134, qR135, qR136, qR137, qR138]
def qCL : List (List Instr) := [qC0, qC1, qC2, qC3, qC4, qC5, qC6, qC7, qC8, qC9, qC10, qC11, qC12, qC13, qC14, qC15, qC16, qC17, qC18, qC19, qC20, qC21, qC22, qC23, qC24, qC25, qC26, qC27, qC28, qC29, qC30, qC31, qC32, qC33, qC34, qC35, qC36, qC37, qC38, qC39, qC40, qC41, qC42, qC43, qC44, qC45, qC46, qC47, qC48, qC49, qC50, qC51, qC52, qC53, qC54, qC55, qC56, qC57, qC58, qC59, qC60, qC61, qC62, qC63, qC64, qC65, qC66, qC67, qC68, qC69, qC70, qC71, qC72, qC73, qC74, qC75, qC76, qC77, qC78, qC79, qC80, qC81, qC82, qC83, qC84, qC85, qC86, qC87, qC88, qC89, qC90, qC91, qC92, qC93, qC94, qC95, qC96, qC97, qC98, qC99, qC100, qC101, qC102, qC103, qC104, qC105, qC106, qC107, qC108, qC109, qC110, qC111, qC112, qC113, qC114, qC115, qC116, qC117, qC118, qC119, qC120, qC121, qC122, qC123, qC124, qC125, qC126, qC127, qC128, qC129, qC130, qC131, qC132, qC133, qC134, qC135, qC136, qC137, qC138]
def qU : List Cond := lw_tbl.filter goodWord
theorem qin {w : Cond} (i : Nat) (h : lw_tbl[i]? = some w) (g : goodWord w = true) : w ∈ qU := List.mem_filter.mpr ⟨List.mem_of_getElem? h, g⟩
theorem qU_good : ∀ w ∈ qU, goodWord w = true := fun _ h => (List.mem_filter.mp h).2
theorem qU_in : ∀ w ∈ qU, w ∈ lw_tbl := fun _ h => (List.mem_filter.mp h).1
def qNM : Nat := 139
def qOwn : Nat → String := fun k => match k with
  | 0 => RX0
  | 1 => RX1
  | 2 => RX2
  | 3 => RX3
  | 4 => RX4
  | 5 => RX5
  | 6 => RJ0
  | 7 => RJ1
  | 8 => RJ6
  | 9 => RJ9
  | _ => RL
def qTf : Nat → u_T := fun c => match c with
  | 0 => TX0
  | 1 => TX2
  | 2 => TX3
  | 3 => TX4
  | 4 => TX5
  | _ => fun k => match k with
    | 0 => ("java/lang/String", "value", "[B", true)
    | _ => ("java/lang/String", "coder", "B", true)
def qFT : List (Nat × Nat × Nat) := [(6, 9, 320), (6, 15, 321), (0, 9, 6), (0, 21, 0), (0, 35, 5), (0, 47, 1), (0, 50, 2), (0, 53, 3), (0, 56, 4), (2, 9, 64), (2, 15, 65), (3, 9, 133), (3, 15, 134), (3, 18, 128), (3, 22, 129), (3, 25, 130), (3, 28, 131), (3, 31, 132), (3, 34, 135), (4, 10, 192), (4, 19, 193), (4, 26, 194), (4, 30, 195), (4, 33, 196), (4, 36, 197), (4, 64, 198), (4, 68, 199), (4, 131, 200), (5, 7, 258), (5, 13, 259), (5, 16, 260), (5, 19, 261), (5, 22, 262), (5, 25, 268), (5, 28, 269), (5, 31, 270), (5, 34, 273), (5, 38, 276), (5, 41, 285), (5, 44, 286), (5, 47, 287), (5, 50, 288), (5, 53, 289), (5, 60, 272), (5, 71, 274), (5, 75, 275), (5, 88, 257), (5, 91, 256), (5, 94, 263), (5, 97, 264), (5, 100, 265), (5, 103, 266), (5, 106, 267), (5, 158, 271), (5, 187, 277), (5, 209, 278), (5, 212, 279), (5, 215, 280), (5, 218, 281), (5, 221, 282), (5, 224, 283), (5, 227, 284), (5, 235, 290)]
theorem qFT_0 : ∀ q ∈ ([(6, 9, 320), (6, 15, 321), (0, 9, 6), (0, 21, 0), (0, 35, 5), (0, 47, 1), (0, 50, 2), (0, 53, 3), (0, 56, 4), (2, 9, 64), (2, 15, 65), (3, 9, 133), (3, 15, 134), (3, 18, 128), (3, 22, 129), (3, 25, 130), (3, 28, 131), (3, 31, 132), (3, 34, 135), (4, 10, 192)] : List (Nat × Nat × Nat)), Cond.fieldLink (qOwn q.1) q.2.1 (qTf (q.2.2 / 64) (q.2.2 % 64)).1 (qTf (q.2.2 / 64) (q.2.2 % 64)).2.1 (qTf (q.2.2 / 64) (q.2.2 % 64)).2.2.1 ∈ qU := by
  refine List.forall_mem_cons.mpr ⟨qin 919 (by decide +kernel) (by decide +kernel), List.forall_mem_cons.mpr ⟨qin 918 (by decide +kernel) (by decide +kernel), List.forall_mem_cons.mpr ⟨qin 92 (by decide +kernel) (by decide +kernel), List.forall_mem_cons.mpr ⟨qin 84 (by decide +kernel) (by decide +kernel), List.forall_mem_cons.mpr ⟨qin 91 (by decide +kernel) (by decide +kernel), List.forall_mem_cons.mpr ⟨qin 87 (by decide +kernel) (by decide +kernel), List.forall_mem_cons.mpr ⟨qin 88 (by decide +kernel) (by decide +kernel), List.forall_mem_cons.mpr ⟨qin 89 (by decide +kernel) (by decide +kernel), List.forall_mem_cons.mpr ⟨qin 90 (by decide +kernel) (by decide +kernel), List.forall_mem_cons.mpr ⟨qin 68 (by decide +kernel) (by decide +kernel), List.forall_mem_cons.mpr ⟨qin 69 (by decide +kernel) (by decide +kernel), List.forall_mem_cons.mpr ⟨qin 124 (by decide +kernel) (by decide +kernel), List.forall_mem_cons.mpr ⟨qin 125 (by decide +kernel) (by decide +kernel), List.forall_mem_cons.mpr ⟨qin 114 (by decide +kernel) (by decide +kernel), List.forall_mem_cons.mpr ⟨qin 116 (by decide +kernel) (by decide +kernel), List.forall_mem_cons.mpr ⟨qin 118 (by decide +kernel) (by decide +kernel), List.forall_mem_cons.mpr ⟨qin 120 (by decide +kernel) (by decide +kernel), List.forall_mem_cons.mpr ⟨qin 122 (by decide +kernel) (by decide +kernel), List.forall_mem_cons.mpr ⟨qin 126 (by decide +kernel) (by decide +kernel), List.forall_mem_cons.mpr ⟨qin 145 (by decide +kernel) (by decide +kernel), fun _ h => absurd h List.not_mem_nil⟩⟩⟩⟩⟩⟩⟩⟩⟩⟩⟩⟩⟩⟩⟩⟩⟩⟩⟩⟩
theorem qFT_1 : ∀ q ∈ ([(4, 19, 193), (4, 26, 194), (4, 30, 195), (4, 33, 196), (4, 36, 197), (4, 64, 198), (4, 68, 199), (4, 131, 200), (5, 7, 258), (5, 13, 259), (5, 16, 260), (5, 19, 261), (5, 22, 262), (5, 25, 268), (5, 28, 269), (5, 31, 270), (5, 34, 273), (5, 38, 276), (5, 41, 285), (5, 44, 286)] : List (Nat × Nat × Nat)), Cond.fieldLink (qOwn q.1) q.2.1 (qTf (q.2.2 / 64) (q.2.2 % 64)).1 (qTf (q.2.2 / 64) (q.2.2 % 64)).2.1 (qTf (q.2.2 / 64) (q.2.2 % 64)).2.2.1 ∈ qU := by
  refine List.forall_mem_cons.mpr ⟨qin 146 (by decide +kernel) (by decide +kernel), List.forall_mem_cons.mpr ⟨qin 147 (by decide +kernel) (by decide +kernel), List.forall_mem_cons.mpr ⟨qin 148 (by decide +kernel) (by decide +kernel), List.forall_mem_cons.mpr ⟨qin 149 (by decide +kernel) (by decide +kernel), List.forall_mem_cons.mpr ⟨qin 150 (by decide +kernel) (by decide +kernel), List.forall_mem_cons.mpr ⟨qin 151 (by decide +kernel) (by decide +kernel), List.forall_mem_cons.mpr ⟨qin 152 (by decide +kernel) (by decide +kernel), List.forall_mem_cons.mpr ⟨qin 153 (by decide +kernel) (by decide +kernel), List.forall_mem_cons.mpr ⟨qin 595 (by decide +kernel) (by decide +kernel), List.forall_mem_cons.mpr ⟨qin 596 (by decide +kernel) (by decide +kernel), List.forall_mem_cons.mpr ⟨qin 597 (by decide +kernel) (by decide +kernel), List.forall_mem_cons.mpr ⟨qin 598 (by decide +kernel) (by decide +kernel), List.forall_mem_cons.mpr ⟨qin 599 (by decide +kernel) (by decide +kernel), List.forall_mem_cons.mpr ⟨qin 605 (by decide +kernel) (by decide +kernel), List.forall_mem_cons.mpr ⟨qin 606 (by decide +kernel) (by decide +kernel), List.forall_mem_cons.mpr ⟨qin 607 (by decide +kernel) (by decide +kernel), List.forall_mem_cons.mpr ⟨qin 610 (by decide +kernel) (by decide +kernel), List.forall_mem_cons.mpr ⟨qin 613 (by decide +kernel) (by decide +kernel), List.forall_mem_cons.mpr ⟨qin 622 (by decide +kernel) (by decide +kernel), List.forall_mem_cons.mpr ⟨qin 623 (by decide +kernel) (by decide +kernel), fun _ h => absurd h List.not_mem_nil⟩⟩⟩⟩⟩⟩⟩⟩⟩⟩⟩⟩⟩⟩⟩⟩⟩⟩⟩⟩
theorem qFT_2 : ∀ q ∈ ([(5, 47, 287), (5, 50, 288), (5, 53, 289), (5, 60, 272), (5, 71, 274), (5, 75, 275), (5, 88, 257), (5, 91, 256), (5, 94, 263), (5, 97, 264), (5, 100, 265), (5, 103, 266), (5, 106, 267), (5, 158, 271), (5, 187, 277), (5, 209, 278), (5, 212, 279), (5, 215, 280), (5, 218, 281), (5, 221, 282)] : List (Nat × Nat × Nat)), Cond.fieldLink (qOwn q.1) q.2.1 (qTf (q.2.2 / 64) (q.2.2 % 64)).1 (qTf (q.2.2 / 64) (q.2.2 % 64)).2.1 (qTf (q.2.2 / 64) (q.2.2 % 64)).2.2.1 ∈ qU := by
  refine List.forall_mem_cons.mpr ⟨qin 624 (by decide +kernel) (by decide +kernel), List.forall_mem_cons.mpr ⟨qin 625 (by decide +kernel) (by decide +kernel), List.forall_mem_cons.mpr ⟨qin 626 (by decide +kernel) (by decide +kernel), List.forall_mem_cons.mpr ⟨qin 609 (by decide +kernel) (by decide +kernel), List.forall_mem_cons.mpr ⟨qin 611 (by decide +kernel) (by decide +kernel), List.forall_mem_cons.mpr ⟨qin 612 (by decide +kernel) (by decide +kernel), List.forall_mem_cons.mpr ⟨qin 594 (by decide +kernel) (by decide +kernel), List.forall_mem_cons.mpr ⟨qin 593 (by decide +kernel) (by decide +kernel), List.forall_mem_cons.mpr ⟨qin 600 (by decide +kernel) (by decide +kernel), List.forall_mem_cons.mpr ⟨qin 601 (by decide +kernel) (by decide +kernel), List.forall_mem_cons.mpr ⟨qin 602 (by decide +kernel) (by decide +kernel), List.forall_mem_cons.mpr ⟨qin 603 (by decide +kernel) (by decide +kernel), List.forall_mem_cons.mpr ⟨qin 604 (by decide +kernel) (by decide +kernel), List.forall_mem_cons.mpr ⟨qin 608 (by decide +kernel) (by decide +kernel), List.forall_mem_cons.mpr ⟨qin 614 (by decide +kernel) (by decide +kernel), List.forall_mem_cons.mpr ⟨qin 615 (by decide +kernel) (by decide +kernel), List.forall_mem_cons.mpr ⟨qin 616 (by decide +kernel) (by decide +kernel), List.forall_mem_cons.mpr ⟨qin 617 (by decide +kernel) (by decide +kernel), List.forall_mem_cons.mpr ⟨qin 618 (by decide +kernel) (by decide +kernel), List.forall_mem_cons.mpr ⟨qin 619 (by decide +kernel) (by decide +kernel), fun _ h => absurd h List.not_mem_nil⟩⟩⟩⟩⟩⟩⟩⟩⟩⟩⟩⟩⟩⟩⟩⟩⟩⟩⟩⟩
theorem qFT_3 : ∀ q ∈ ([(5, 224, 283), (5, 227, 284), (5, 235, 290)] : List (Nat × Nat × Nat)), Cond.fieldLink (qOwn q.1) q.2.1 (qTf (q.2.2 / 64) (q.2.2 % 64)).1 (qTf (q.2.2 / 64) (q.2.2 % 64)).2.1 (qTf (q.2.2 / 64) (q.2.2 % 64)).2.2.1 ∈ qU := by
  refine List.forall_mem_cons.mpr ⟨qin 620 (by decide +kernel) (by decide +kernel), List.forall_mem_cons.mpr ⟨qin 621 (by decide +kernel) (by decide +kernel), List.forall_mem_cons.mpr ⟨qin 627 (by decide +kernel) (by decide +kernel), fun _ h => absurd h List.not_mem_nil⟩⟩⟩
theorem qFT_ok : ∀ q ∈ qFT, Cond.fieldLink (qOwn q.1) q.2.1 (qTf (q.2.2 / 64) (q.2.2 % 64)).1 (qTf (q.2.2 / 64) (q.2.2 % 64)).2.1 (qTf (q.2.2 / 64) (q.2.2 % 64)).2.2.1 ∈ qU := by
  show ∀ q ∈ ([(6, 9, 320), (6, 15, 321), (0, 9, 6), (0, 21, 0), (0, 35, 5), (0, 47, 1), (0, 50, 2), (0, 53, 3), (0, 56, 4), (2, 9, 64), (2, 15, 65), (3, 9, 133), (3, 15, 134), (3, 18, 128), (3, 22, 129), (3, 25, 130), (3, 28, 131), (3, 31, 132), (3, 34, 135), (4, 10, 192)] : List (Nat × Nat × Nat)) ++ ([(4, 19, 193), (4, 26, 194), (4, 30, 195), (4, 33, 196), (4, 36, 197), (4, 64, 198), (4, 68, 199), (4, 131, 200), (5, 7, 258), (5, 13, 259), (5, 16, 260), (5, 19, 261), (5, 22, 262), (5, 25, 268), (5, 28, 269), (5, 31, 270), (5, 34, 273), (5, 38, 276), (5, 41, 285), (5, 44, 286)] : List (Nat × Nat × Nat)) ++ ([(5, 47, 287), (5, 50, 288), (5, 53, 289), (5, 60, 272), (5, 71, 274), (5, 75, 275), (5, 88, 257), (5, 91, 256), (5, 94, 263), (5, 97, 264), (5, 100, 265), (5, 103, 266), (5, 106, 267), (5, 158, 271), (5, 187, 277), (5, 209, 278), (5, 212, 279), (5, 215, 280), (5, 218, 281), (5, 221, 282)] : List (Nat × Nat × Nat)) ++ ([(5, 224, 283), (5, 227, 284), (5, 235, 290)] : List (Nat × Nat × Nat)), Cond.fieldLink (qOwn q.1) q.2.1 (qTf (q.2.2 / 64) (q.2.2 % 64)).1 (qTf (q.2.2 / 64) (q.2.2 % 64)).2.1 (qTf (q.2.2 / 64) (q.2.2 % 64)).2.2.1 ∈ qU
  exact List.forall_mem_append.mpr ⟨List.forall_mem_append.mpr ⟨List.forall_mem_append.mpr ⟨qFT_0, qFT_1⟩, qFT_2⟩, qFT_3⟩
def qMT : List (Nat × Nat × Nat) := [(6, 335, 128), (6, 492, 127), (6, 505, 129), (6, 633, 133), (6, 637, 132), (7, 38, 137), (7, 88, 130), (7, 92, 136), (7, 95, 131), (10, 13, 45), (10, 17, 76), (10, 18, 46), (10, 22, 77), (10, 23, 47), (10, 26, 83), (10, 27, 48), (10, 30, 84), (10, 31, 49), (10, 35, 92), (10, 36, 50), (10, 39, 93), (10, 40, 51), (10, 43, 94), (10, 44, 52), (10, 48, 95), (10, 49, 53), (10, 53, 99), (10, 54, 54), (10, 57, 105), (10, 58, 55), (10, 61, 108), (10, 62, 56), (10, 66, 109), (10, 67, 57), (10, 70, 110), (10, 71, 58), (10, 74, 113), (10, 75, 59), (10, 78, 116), (10, 79, 60), (10, 82, 120), (10, 83, 61), (10, 86, 121), (10, 87, 62), (10, 90, 122), (10, 91, 63), (10, 94, 124), (10, 95, 64), (10, 99, 126), (0, 24, 5), (0, 28, 4), (0, 31, 12), (0, 38, 1), (0, 44, 14), (0, 59, 13), (0, 63, 20), (0, 66, 15), (0, 70, 0), (0, 73, 18), (0, 76, 23), (0, 79, 137), (0, 84, 136), (2, 19, 3), (2, 25, 134), (2, 30, 8), (2, 34, 9), (2, 38, 6), (2, 42, 5), (2, 45, 10), (2, 49, 4), (3, 42, 21), (3, 46, 1), (3, 52, 34), (3, 55, 43), (3, 58, 0), (3, 62, 28), (3, 65, 24), (3, 69, 29), (3, 72, 30), (3, 76, 22), (3, 79, 32), (3, 82, 38), (3, 86, 37), (3, 90, 39), (3, 94, 36), (3, 98, 25), (4, 44, 2), (4, 48, 6), (4, 52, 7), (4, 56, 11), (4, 60, 26), (4, 74, 15), (4, 78, 28), (4, 82, 18), (4, 85, 19), (4, 88, 23), (4, 91, 24), (4, 95, 30), (4, 98, 31), (4, 101, 34), (4, 104, 22), (4, 107, 17), (4, 110, 20), (4, 113, 32), (4, 116, 33), (4, 120, 16), (4, 123, 37), (4, 127, 41), (4, 134, 67), (4, 137, 40), (4, 144, 42), (4, 148, 44), (4, 152, 69), (4, 156, 27), (4, 160, 70), (4, 166, 135), (4, 171, 35), (4, 186, 65), (4, 190, 66), (4, 195, 3), (4, 198, 63), (4, 201, 49), (4, 204, 51), (4, 207, 58), (4, 210, 59), (4, 213, 68), (4, 217, 39), (4, 224, 36), (4, 228, 25), (4, 232, 136), (4, 237, 71), (4, 240, 72), (5, 56, 73), (5, 64, 78), (5, 68, 79), (5, 78, 80), (5, 81, 81), (5, 84, 82), (5, 109, 74), (5, 113, 88), (5, 116, 89), (5, 119, 90), (5, 123, 85), (5, 126, 91), (5, 130, 86), (5, 133, 87), (5, 136, 97), (5, 139, 96), (5, 142, 98), (5, 146, 102), (5, 149, 101), (5, 152, 100), (5, 155, 103), (5, 161, 104), (5, 164, 107), (5, 167, 106), (5, 170, 111), (5, 174, 112), (5, 178, 114), (5, 182, 115), (5, 197, 117), (5, 200, 75), (5, 203, 118), (5, 206, 119), (5, 230, 123), (5, 240, 125)]
theorem qMT_0 : ∀ q ∈ ([(6, 335, 128), (6, 492, 127), (6, 505, 129), (6, 633, 133), (6, 637, 132), (7, 38, 137), (7, 88, 130), (7, 92, 136), (7, 95, 131), (10, 13, 45), (10, 17, 76), (10, 18, 46), (10, 22, 77), (10, 23, 47), (10, 26, 83), (10, 27, 48), (10, 30, 84), (10, 31, 49), (10, 35, 92), (10, 36, 50)] : List (Nat × Nat × Nat)), Cond.methodLink (qOwn q.1) q.2.1 (qyL.getD q.2.2 yL_law) ∈ qU := by
  refine List.forall_mem_cons.mpr ⟨qin 224 (by decide +kernel) (by decide +kernel), List.forall_mem_cons.mpr ⟨qin 214 (by decide +kernel) (by decide +kernel), List.forall_mem_cons.mpr ⟨qin 220 (by decide +kernel) (by decide +kernel), List.forall_mem_cons.mpr ⟨qin 210 (by decide +kernel) (by decide +kernel), List.forall_mem_cons.mpr ⟨qin 228 (by decide +kernel) (by decide +kernel), List.forall_mem_cons.mpr ⟨qin 237 (by decide +kernel) (by decide +kernel), List.forall_mem_cons.mpr ⟨qin 231 (by decide +kernel) (by decide +kernel), List.forall_mem_cons.mpr ⟨qin 234 (by decide +kernel) (by decide +kernel), List.forall_mem_cons.mpr ⟨qin 240 (by decide +kernel) (by decide +kernel), List.forall_mem_cons.mpr ⟨qin 173 (by decide +kernel) (by decide +kernel), List.forall_mem_cons.mpr ⟨qin 699 (by decide +kernel) (by decide +kernel), List.forall_mem_cons.mpr ⟨qin 181 (by decide +kernel) (by decide +kernel), List.forall_mem_cons.mpr ⟨qin 706 (by decide +kernel) (by decide +kernel), List.forall_mem_cons.mpr ⟨qin 185 (by decide +kernel) (by decide +kernel), List.forall_mem_cons.mpr ⟨qin 710 (by decide +kernel) (by decide +kernel), List.forall_mem_cons.mpr ⟨qin 305 (by decide +kernel) (by decide +kernel), List.forall_mem_cons.mpr ⟨qin 733 (by decide +kernel) (by decide +kernel), List.forall_mem_cons.mpr ⟨qin 350 (by decide +kernel) (by decide +kernel), List.forall_mem_cons.mpr ⟨qin 737 (by decide +kernel) (by decide +kernel), List.forall_mem_cons.mpr ⟨qin 392 (by decide +kernel) (by decide +kernel), fun _ h => absurd h List.not_mem_nil⟩⟩⟩⟩⟩⟩⟩⟩⟩⟩⟩⟩⟩⟩⟩⟩⟩⟩⟩⟩
theorem qMT_1 : ∀ q ∈ ([(10, 39, 93), (10, 40, 51), (10, 43, 94), (10, 44, 52), (10, 48, 95), (10, 49, 53), (10, 53, 99), (10, 54, 54), (10, 57, 105), (10, 58, 55), (10, 61, 108), (10, 62, 56), (10, 66, 109), (10, 67, 57), (10, 70, 110), (10, 71, 58), (10, 74, 113), (10, 75, 59), (10, 78, 116), (10, 79, 60)] : List (Nat × Nat × Nat)), Cond.methodLink (qOwn q.1) q.2.1 (qyL.getD q.2.2 yL_law) ∈ qU := by
  refine List.forall_mem_cons.mpr ⟨qin 764 (by decide +kernel) (by decide +kernel), List.forall_mem_cons.mpr ⟨qin 401 (by decide +kernel) (by decide +kernel), List.forall_mem_cons.mpr ⟨qin 768 (by decide +kernel) (by decide +kernel), List.forall_mem_cons.mpr ⟨qin 410 (by decide +kernel) (by decide +kernel), List.forall_mem_cons.mpr ⟨qin 776 (by decide +kernel) (by decide +kernel), List.forall_mem_cons.mpr ⟨qin 422 (by decide +kernel) (by decide +kernel), List.forall_mem_cons.mpr ⟨qin 780 (by decide +kernel) (by decide +kernel), List.forall_mem_cons.mpr ⟨qin 460 (by decide +kernel) (by decide +kernel), List.forall_mem_cons.mpr ⟨qin 800 (by decide +kernel) (by decide +kernel), List.forall_mem_cons.mpr ⟨qin 482 (by decide +kernel) (by decide +kernel), List.forall_mem_cons.mpr ⟨qin 824 (by decide +kernel) (by decide +kernel), List.forall_mem_cons.mpr ⟨qin 491 (by decide +kernel) (by decide +kernel), List.forall_mem_cons.mpr ⟨qin 836 (by decide +kernel) (by decide +kernel), List.forall_mem_cons.mpr ⟨qin 499 (by decide +kernel) (by decide +kernel), List.forall_mem_cons.mpr ⟨qin 840 (by decide +kernel) (by decide +kernel), List.forall_mem_cons.mpr ⟨qin 503 (by decide +kernel) (by decide +kernel), List.forall_mem_cons.mpr ⟨qin 844 (by decide +kernel) (by decide +kernel), List.forall_mem_cons.mpr ⟨qin 517 (by decide +kernel) (by decide +kernel), List.forall_mem_cons.mpr ⟨qin 856 (by decide +kernel) (by decide +kernel), List.forall_mem_cons.mpr ⟨qin 533 (by decide +kernel) (by decide +kernel), fun _ h => absurd h List.not_mem_nil⟩⟩⟩⟩⟩⟩⟩⟩⟩⟩⟩⟩⟩⟩⟩⟩⟩⟩⟩⟩
theorem qMT_2 : ∀ q ∈ ([(10, 82, 120), (10, 83, 61), (10, 86, 121), (10, 87, 62), (10, 90, 122), (10, 91, 63), (10, 94, 124), (10, 95, 64), (10, 99, 126), (0, 24, 5), (0, 28, 4), (0, 31, 12), (0, 38, 1), (0, 44, 14), (0, 59, 13), (0, 63, 20), (0, 66, 15), (0, 70, 0), (0, 73, 18), (0, 76, 23)] : List (Nat × Nat × Nat)), Cond.methodLink (qOwn q.1) q.2.1 (qyL.getD q.2.2 yL_law) ∈ qU := by
  refine List.forall_mem_cons.mpr ⟨qin 869 (by decide +kernel) (by decide +kernel), List.forall_mem_cons.mpr ⟨qin 555 (by decide +kernel) (by decide +kernel), List.forall_mem_cons.mpr ⟨qin 892 (by decide +kernel) (by decide +kernel), List.forall_mem_cons.mpr ⟨qin 559 (by decide +kernel) (by decide +kernel), List.forall_mem_cons.mpr ⟨qin 896 (by decide +kernel) (by decide +kernel), List.forall_mem_cons.mpr ⟨qin 563 (by decide +kernel) (by decide +kernel), List.forall_mem_cons.mpr ⟨qin 900 (by decide +kernel) (by decide +kernel), List.forall_mem_cons.mpr ⟨qin 567 (by decide +kernel) (by decide +kernel), List.forall_mem_cons.mpr ⟨qin 908 (by decide +kernel) (by decide +kernel), List.forall_mem_cons.mpr ⟨qin 318 (by decide +kernel) (by decide +kernel), List.forall_mem_cons.mpr ⟨qin 319 (by decide +kernel) (by decide +kernel), List.forall_mem_cons.mpr ⟨qin 320 (by decide +kernel) (by decide +kernel), List.forall_mem_cons.mpr ⟨qin 324 (by decide +kernel) (by decide +kernel), List.forall_mem_cons.mpr ⟨qin 330 (by decide +kernel) (by decide +kernel), List.forall_mem_cons.mpr ⟨qin 327 (by decide +kernel) (by decide +kernel), List.forall_mem_cons.mpr ⟨qin 334 (by decide +kernel) (by decide +kernel), List.forall_mem_cons.mpr ⟨qin 430 (by decide +kernel) (by decide +kernel), List.forall_mem_cons.mpr ⟨qin 338 (by decide +kernel) (by decide +kernel), List.forall_mem_cons.mpr ⟨qin 400 (by decide +kernel) (by decide +kernel), List.forall_mem_cons.mpr ⟨qin 379 (by decide +kernel) (by decide +kernel), fun _ h => absurd h List.not_mem_nil⟩⟩⟩⟩⟩⟩⟩⟩⟩⟩⟩⟩⟩⟩⟩⟩⟩⟩⟩⟩
theorem qMT_3 : ∀ q ∈ ([(0, 79, 137), (0, 84, 136), (2, 19, 3), (2, 25, 134), (2, 30, 8), (2, 34, 9), (2, 38, 6), (2, 42, 5), (2, 45, 10), (2, 49, 4), (3, 42, 21), (3, 46, 1), (3, 52, 34), (3, 55, 43), (3, 58, 0), (3, 62, 28), (3, 65, 24), (3, 69, 29), (3, 72, 30), (3, 76, 22)] : List (Nat × Nat × Nat)), Cond.methodLink (qOwn q.1) q.2.1 (qyL.getD q.2.2 yL_law) ∈ qU := by
  refine List.forall_mem_cons.mpr ⟨qin 515 (by decide +kernel) (by decide +kernel), List.forall_mem_cons.mpr ⟨qin 516 (by decide +kernel) (by decide +kernel), List.forall_mem_cons.mpr ⟨qin 202 (by decide +kernel) (by decide +kernel), List.forall_mem_cons.mpr ⟨qin 206 (by decide +kernel) (by decide +kernel), List.forall_mem_cons.mpr ⟨qin 193 (by decide +kernel) (by decide +kernel), List.forall_mem_cons.mpr ⟨qin 300 (by decide +kernel) (by decide +kernel), List.forall_mem_cons.mpr ⟨qin 313 (by decide +kernel) (by decide +kernel), List.forall_mem_cons.mpr ⟨qin 197 (by decide +kernel) (by decide +kernel), List.forall_mem_cons.mpr ⟨qin 292 (by decide +kernel) (by decide +kernel), List.forall_mem_cons.mpr ⟨qin 296 (by decide +kernel) (by decide +kernel), List.forall_mem_cons.mpr ⟨qin 345 (by decide +kernel) (by decide +kernel), List.forall_mem_cons.mpr ⟨qin 349 (by decide +kernel) (by decide +kernel), List.forall_mem_cons.mpr ⟨qin 472 (by decide +kernel) (by decide +kernel), List.forall_mem_cons.mpr ⟨qin 473 (by decide +kernel) (by decide +kernel), List.forall_mem_cons.mpr ⟨qin 362 (by decide +kernel) (by decide +kernel), List.forall_mem_cons.mpr ⟨qin 439 (by decide +kernel) (by decide +kernel), List.forall_mem_cons.mpr ⟨qin 449 (by decide +kernel) (by decide +kernel), List.forall_mem_cons.mpr ⟨qin 435 (by decide +kernel) (by decide +kernel), List.forall_mem_cons.mpr ⟨qin 440 (by decide +kernel) (by decide +kernel), List.forall_mem_cons.mpr ⟨qin 454 (by decide +kernel) (by decide +kernel), fun _ h => absurd h List.not_mem_nil⟩⟩⟩⟩⟩⟩⟩⟩⟩⟩⟩⟩⟩⟩⟩⟩⟩⟩⟩⟩
theorem qMT_4 : ∀ q ∈ ([(3, 79, 32), (3, 82, 38), (3, 86, 37), (3, 90, 39), (3, 94, 36), (3, 98, 25), (4, 44, 2), (4, 48, 6), (4, 52, 7), (4, 56, 11), (4, 60, 26), (4, 74, 15), (4, 78, 28), (4, 82, 18), (4, 85, 19), (4, 88, 23), (4, 91, 24), (4, 95, 30), (4, 98, 31), (4, 101, 34)] : List (Nat × Nat × Nat)), Cond.methodLink (qOwn q.1) q.2.1 (qyL.getD q.2.2 yL_law) ∈ qU := by
  refine List.forall_mem_cons.mpr ⟨qin 455 (by decide +kernel) (by decide +kernel), List.forall_mem_cons.mpr ⟨qin 445 (by decide +kernel) (by decide +kernel), List.forall_mem_cons.mpr ⟨qin 490 (by decide +kernel) (by decide +kernel), List.forall_mem_cons.mpr ⟨qin 450 (by decide +kernel) (by decide +kernel), List.forall_mem_cons.mpr ⟨qin 456 (by decide +kernel) (by decide +kernel), List.forall_mem_cons.mpr ⟨qin 511 (by decide +kernel) (by decide +kernel), List.forall_mem_cons.mpr ⟨qin 177 (by decide +kernel) (by decide +kernel), List.forall_mem_cons.mpr ⟨qin 189 (by decide +kernel) (by decide +kernel), List.forall_mem_cons.mpr ⟨qin 309 (by decide +kernel) (by decide +kernel), List.forall_mem_cons.mpr ⟨qin 314 (by decide +kernel) (by decide +kernel), List.forall_mem_cons.mpr ⟨qin 341 (by decide +kernel) (by decide +kernel), List.forall_mem_cons.mpr ⟨qin 354 (by decide +kernel) (by decide +kernel), List.forall_mem_cons.mpr ⟨qin 358 (by decide +kernel) (by decide +kernel), List.forall_mem_cons.mpr ⟨qin 363 (by decide +kernel) (by decide +kernel), List.forall_mem_cons.mpr ⟨qin 367 (by decide +kernel) (by decide +kernel), List.forall_mem_cons.mpr ⟨qin 371 (by decide +kernel) (by decide +kernel), List.forall_mem_cons.mpr ⟨qin 375 (by decide +kernel) (by decide +kernel), List.forall_mem_cons.mpr ⟨qin 380 (by decide +kernel) (by decide +kernel), List.forall_mem_cons.mpr ⟨qin 384 (by decide +kernel) (by decide +kernel), List.forall_mem_cons.mpr ⟨qin 388 (by decide +kernel) (by decide +kernel), fun _ h => absurd h List.not_mem_nil⟩⟩⟩⟩⟩⟩⟩⟩⟩⟩⟩⟩⟩⟩⟩⟩⟩⟩⟩⟩
theorem qMT_5 : ∀ q ∈ ([(4, 104, 22), (4, 107, 17), (4, 110, 20), (4, 113, 32), (4, 116, 33), (4, 120, 16), (4, 123, 37), (4, 127, 41), (4, 134, 67), (4, 137, 40), (4, 144, 42), (4, 148, 44), (4, 152, 69), (4, 156, 27), (4, 160, 70), (4, 166, 135), (4, 171, 35), (4, 186, 65), (4, 190, 66), (4, 195, 3)] : List (Nat × Nat × Nat)), Cond.methodLink (qOwn q.1) q.2.1 (qyL.getD q.2.2 yL_law) ∈ qU := by
  refine List.forall_mem_cons.mpr ⟨qin 396 (by decide +kernel) (by decide +kernel), List.forall_mem_cons.mpr ⟨qin 405 (by decide +kernel) (by decide +kernel), List.forall_mem_cons.mpr ⟨qin 409 (by decide +kernel) (by decide +kernel), List.forall_mem_cons.mpr ⟨qin 414 (by decide +kernel) (by decide +kernel), List.forall_mem_cons.mpr ⟨qin 418 (by decide +kernel) (by decide +kernel), List.forall_mem_cons.mpr ⟨qin 426 (by decide +kernel) (by decide +kernel), List.forall_mem_cons.mpr ⟨qin 431 (by decide +kernel) (by decide +kernel), List.forall_mem_cons.mpr ⟨qin 441 (by decide +kernel) (by decide +kernel), List.forall_mem_cons.mpr ⟨qin 464 (by decide +kernel) (by decide +kernel), List.forall_mem_cons.mpr ⟨qin 486 (by decide +kernel) (by decide +kernel), List.forall_mem_cons.mpr ⟨qin 495 (by decide +kernel) (by decide +kernel), List.forall_mem_cons.mpr ⟨qin 507 (by decide +kernel) (by decide +kernel), List.forall_mem_cons.mpr ⟨qin 521 (by decide +kernel) (by decide +kernel), List.forall_mem_cons.mpr ⟨qin 468 (by decide +kernel) (by decide +kernel), List.forall_mem_cons.mpr ⟨qin 537 (by decide +kernel) (by decide +kernel), List.forall_mem_cons.mpr ⟨qin 526 (by decide +kernel) (by decide +kernel), List.forall_mem_cons.mpr ⟨qin 551 (by decide +kernel) (by decide +kernel), List.forall_mem_cons.mpr ⟨qin 572 (by decide +kernel) (by decide +kernel), List.forall_mem_cons.mpr ⟨qin 578 (by decide +kernel) (by decide +kernel), List.forall_mem_cons.mpr ⟨qin 585 (by decide +kernel) (by decide +kernel), fun _ h => absurd h List.not_mem_nil⟩⟩⟩⟩⟩⟩⟩⟩⟩⟩⟩⟩⟩⟩⟩⟩⟩⟩⟩⟩
theorem qMT_6 : ∀ q ∈ ([(4, 198, 63), (4, 201, 49), (4, 204, 51), (4, 207, 58), (4, 210, 59), (4, 213, 68), (4, 217, 39), (4, 224, 36), (4, 228, 25), (4, 232, 136), (4, 237, 71), (4, 240, 72), (5, 56, 73), (5, 64, 78), (5, 68, 79), (5, 78, 80), (5, 81, 81), (5, 84, 82), (5, 109, 74), (5, 113, 88)] : List (Nat × Nat × Nat)), Cond.methodLink (qOwn q.1) q.2.1 (qyL.getD q.2.2 yL_law) ∈ qU := by
  refine List.forall_mem_cons.mpr ⟨qin 586 (by decide +kernel) (by decide +kernel), List.forall_mem_cons.mpr ⟨qin 577 (by decide +kernel) (by decide +kernel), List.forall_mem_cons.mpr ⟨qin 582 (by decide +kernel) (by decide +kernel), List.forall_mem_cons.mpr ⟨qin 583 (by decide +kernel) (by decide +kernel), List.forall_mem_cons.mpr ⟨qin 584 (by decide +kernel) (by decide +kernel), List.forall_mem_cons.mpr ⟨qin 477 (by decide +kernel) (by decide +kernel), List.forall_mem_cons.mpr ⟨qin 480 (by decide +kernel) (by decide +kernel), List.forall_mem_cons.mpr ⟨qin 481 (by decide +kernel) (by decide +kernel), List.forall_mem_cons.mpr ⟨qin 525 (by decide +kernel) (by decide +kernel), List.forall_mem_cons.mpr ⟨qin 532 (by decide +kernel) (by decide +kernel), List.forall_mem_cons.mpr ⟨qin 541 (by decide +kernel) (by decide +kernel), List.forall_mem_cons.mpr ⟨qin 547 (by decide +kernel) (by decide +kernel), List.forall_mem_cons.mpr ⟨qin 703 (by decide +kernel) (by decide +kernel), List.forall_mem_cons.mpr ⟨qin 722 (by decide +kernel) (by decide +kernel), List.forall_mem_cons.mpr ⟨qin 725 (by decide +kernel) (by decide +kernel), List.forall_mem_cons.mpr ⟨qin 718 (by decide +kernel) (by decide +kernel), List.forall_mem_cons.mpr ⟨qin 729 (by decide +kernel) (by decide +kernel), List.forall_mem_cons.mpr ⟨qin 714 (by decide +kernel) (by decide +kernel), List.forall_mem_cons.mpr ⟨qin 753 (by decide +kernel) (by decide +kernel), List.forall_mem_cons.mpr ⟨qin 749 (by decide +kernel) (by decide +kernel), fun _ h => absurd h List.not_mem_nil⟩⟩⟩⟩⟩⟩⟩⟩⟩⟩⟩⟩⟩⟩⟩⟩⟩⟩⟩⟩
theorem qMT_7 : ∀ q ∈ ([(5, 116, 89), (5, 119, 90), (5, 123, 85), (5, 126, 91), (5, 130, 86), (5, 133, 87), (5, 136, 97), (5, 139, 96), (5, 142, 98), (5, 146, 102), (5, 149, 101), (5, 152, 100), (5, 155, 103), (5, 161, 104), (5, 164, 107), (5, 167, 106), (5, 170, 111), (5, 174, 112), (5, 178, 114), (5, 182, 115)] : List (Nat × Nat × Nat)), Cond.methodLink (qOwn q.1) q.2.1 (qyL.getD q.2.2 yL_law) ∈ qU := by
  refine List.forall_mem_cons.mpr ⟨qin 760 (by decide +kernel) (by decide +kernel), List.forall_mem_cons.mpr ⟨qin 756 (by decide +kernel) (by decide +kernel), List.forall_mem_cons.mpr ⟨qin 741 (by decide +kernel) (by decide +kernel), List.forall_mem_cons.mpr ⟨qin 745 (by decide +kernel) (by decide +kernel), List.forall_mem_cons.mpr ⟨qin 772 (by decide +kernel) (by decide +kernel), List.forall_mem_cons.mpr ⟨qin 796 (by decide +kernel) (by decide +kernel), List.forall_mem_cons.mpr ⟨qin 792 (by decide +kernel) (by decide +kernel), List.forall_mem_cons.mpr ⟨qin 784 (by decide +kernel) (by decide +kernel), List.forall_mem_cons.mpr ⟨qin 788 (by decide +kernel) (by decide +kernel), List.forall_mem_cons.mpr ⟨qin 816 (by decide +kernel) (by decide +kernel), List.forall_mem_cons.mpr ⟨qin 820 (by decide +kernel) (by decide +kernel), List.forall_mem_cons.mpr ⟨qin 808 (by decide +kernel) (by decide +kernel), List.forall_mem_cons.mpr ⟨qin 812 (by decide +kernel) (by decide +kernel), List.forall_mem_cons.mpr ⟨qin 804 (by decide +kernel) (by decide +kernel), List.forall_mem_cons.mpr ⟨qin 828 (by decide +kernel) (by decide +kernel), List.forall_mem_cons.mpr ⟨qin 832 (by decide +kernel) (by decide +kernel), List.forall_mem_cons.mpr ⟨qin 852 (by decide +kernel) (by decide +kernel), List.forall_mem_cons.mpr ⟨qin 848 (by decide +kernel) (by decide +kernel), List.forall_mem_cons.mpr ⟨qin 865 (by decide +kernel) (by decide +kernel), List.forall_mem_cons.mpr ⟨qin 860 (by decide +kernel) (by decide +kernel), fun _ h => absurd h List.not_mem_nil⟩⟩⟩⟩⟩⟩⟩⟩⟩⟩⟩⟩⟩⟩⟩⟩⟩⟩⟩⟩
theorem qMT_8 : ∀ q ∈ ([(5, 197, 117), (5, 200, 75), (5, 203, 118), (5, 206, 119), (5, 230, 123), (5, 240, 125)] : List (Nat × Nat × Nat)), Cond.methodLink (qOwn q.1) q.2.1 (qyL.getD q.2.2 yL_law) ∈ qU := by
  refine List.forall_mem_cons.mpr ⟨qin 877 (by decide +kernel) (by decide +kernel), List.forall_mem_cons.mpr ⟨qin 885 (by decide +kernel) (by decide +kernel), List.forall_mem_cons.mpr ⟨qin 888 (by decide +kernel) (by decide +kernel), List.forall_mem_cons.mpr ⟨qin 873 (by decide +kernel) (by decide +kernel), List.forall_mem_cons.mpr ⟨qin 904 (by decide +kernel) (by decide +kernel), List.forall_mem_cons.mpr ⟨qin 913 (by decide +kernel) (by decide +kernel), fun _ h => absurd h List.not_mem_nil⟩⟩⟩⟩⟩⟩
theorem qMT_ok : ∀ q ∈ qMT, Cond.methodLink (qOwn q.1) q.2.1 (qyL.getD q.2.2 yL_law) ∈ qU := by
  show ∀ q ∈ ([(6, 335, 128), (6, 492, 127), (6, 505, 129), (6, 633, 133), (6, 637, 132), (7, 38, 137), (7, 88, 130), (7, 92, 136), (7, 95, 131), (10, 13, 45), (10, 17, 76), (10, 18, 46), (10, 22, 77), (10, 23, 47), (10, 26, 83), (10, 27, 48), (10, 30, 84), (10, 31, 49), (10, 35, 92), (10, 36, 50)] : List (Nat × Nat × Nat)) ++ ([(10, 39, 93), (10, 40, 51), (10, 43, 94), (10, 44, 52), (10, 48, 95), (10, 49, 53), (10, 53, 99), (10, 54, 54), (10, 57, 105), (10, 58, 55), (10, 61, 108), (10, 62, 56), (10, 66, 109), (10, 67, 57), (10, 70, 110), (10, 71, 58), (10, 74, 113), (10, 75, 59), (10, 78, 116), (10, 79, 60)] : List (Nat × Nat × Nat)) ++ ([(10, 82, 120), (10, 83, 61), (10, 86, 121), (10, 87, 62), (10, 90, 122), (10, 91, 63), (10, 94, 124), (10, 95, 64), (10, 99, 126), (0, 24, 5), (0, 28, 4), (0, 31, 12), (0, 38, 1), (0, 44, 14), (0, 59, 13), (0, 63, 20), (0, 66, 15), (0, 70, 0), (0, 73, 18), (0, 76, 23)] : List (Nat × Nat × Nat)) ++ ([(0, 79, 137), (0, 84, 136), (2, 19, 3), (2, 25, 134), (2, 30, 8), (2, 34, 9), (2, 38, 6), (2, 42, 5), (2, 45, 10), (2, 49, 4), (3, 42, 21), (3, 46, 1), (3, 52, 34), (3, 55, 43), (3, 58, 0), (3, 62, 28), (3, 65, 24), (3, 69, 29), (3, 72, 30), (3, 76, 22)] : List (Nat × Nat × Nat)) ++ ([(3, 79, 32), (3, 82, 38), (3, 86, 37), (3, 90, 39), (3, 94, 36), (3, 98, 25), (4, 44, 2), (4, 48, 6), (4, 52, 7), (4, 56, 11), (4, 60, 26), (4, 74, 15), (4, 78, 28), (4, 82, 18), (4, 85, 19), (4, 88, 23), (4, 91, 24), (4, 95, 30), (4, 98, 31), (4, 101, 34)] : List (Nat × Nat × Nat)) ++ ([(4, 104, 22), (4, 107, 17), (4, 110, 20), (4, 113, 32), (4, 116, 33), (4, 120, 16), (4, 123, 37), (4, 127, 41), (4, 134, 67), (4, 137, 40), (4, 144, 42), (4, 148, 44), (4, 152, 69), (4, 156, 27), (4, 160, 70), (4, 166, 135), (4, 171, 35), (4, 186, 65), (4, 190, 66), (4, 195, 3)] : List (Nat × Nat × Nat)) ++ ([(4, 198, 63), (4, 201, 49), (4, 204, 51), (4, 207, 58), (4, 210, 59), (4, 213, 68), (4, 217, 39), (4, 224, 36), (4, 228, 25), (4, 232, 136), (4, 237, 71), (4, 240, 72), (5, 56, 73), (5, 64, 78), (5, 68, 79), (5, 78, 80), (5, 81, 81), (5, 84, 82), (5, 109, 74), (5, 113, 88)] : List (Nat × Nat × Nat)) ++ ([(5, 116, 89), (5, 119, 90), (5, 123, 85), (5, 126, 91), (5, 130, 86), (5, 133, 87), (5, 136, 97), (5, 139, 96), (5, 142, 98), (5, 146, 102), (5, 149, 101), (5, 152, 100), (5, 155, 103), (5, 161, 104), (5, 164, 107), (5, 167, 106), (5, 170, 111), (5, 174, 112), (5, 178, 114), (5, 182, 115)] : List (Nat × Nat × Nat)) ++ ([(5, 197, 117), (5, 200, 75), (5, 203, 118), (5, 206, 119), (5, 230, 123), (5, 240, 125)] : List (Nat × Nat × Nat)), Cond.methodLink (qOwn q.1) q.2.1 (qyL.getD q.2.2 yL_law) ∈ qU
  exact List.forall_mem_append.mpr ⟨List.forall_mem_append.mpr ⟨List.forall_mem_append.mpr ⟨List.forall_mem_append.mpr ⟨List.forall_mem_append.mpr ⟨List.forall_mem_append.mpr ⟨List.forall_mem_append.mpr ⟨List.forall_mem_append.mpr ⟨qMT_0, qMT_1⟩, qMT_2⟩, qMT_3⟩, qMT_4⟩, qMT_5⟩, qMT_6⟩, qMT_7⟩, qMT_8⟩
def qIT : List (Nat × Nat × Int) := [(8, 265, 1431655765), (8, 266, 858993459), (8, 267, 252645135), (4, 249, 65536), (5, 177, 268435456)]
theorem qIT_0 : ∀ q ∈ ([(8, 265, 1431655765), (8, 266, 858993459), (8, 267, 252645135), (4, 249, 65536), (5, 177, 268435456)] : List (Nat × Nat × Int)), Cond.constant (qOwn q.1) q.2.1 (Int32.ofInt q.2.2) ∈ qU := by
  refine List.forall_mem_cons.mpr ⟨qin 529 (by decide +kernel) (by decide +kernel), List.forall_mem_cons.mpr ⟨qin 530 (by decide +kernel) (by decide +kernel), List.forall_mem_cons.mpr ⟨qin 531 (by decide +kernel) (by decide +kernel), List.forall_mem_cons.mpr ⟨qin 550 (by decide +kernel) (by decide +kernel), List.forall_mem_cons.mpr ⟨qin 864 (by decide +kernel) (by decide +kernel), fun _ h => absurd h List.not_mem_nil⟩⟩⟩⟩⟩
theorem qIT_ok : ∀ q ∈ qIT, Cond.constant (qOwn q.1) q.2.1 (Int32.ofInt q.2.2) ∈ qU := by
  show ∀ q ∈ qIT, Cond.constant (qOwn q.1) q.2.1 (Int32.ofInt q.2.2) ∈ qU
  exact qIT_0
def qJT : List (Nat × Nat × Int) := [(4, 184, 991), (4, 193, 31), (4, 243, 1103515245), (4, 245, 12345), (4, 247, 2147483648), (5, 185, 1103515245), (5, 191, 12345), (5, 193, 2147483647), (5, 195, 65536), (5, 233, 31), (5, 238, 991)]
theorem qJT_0 : ∀ q ∈ ([(4, 184, 991), (4, 193, 31), (4, 243, 1103515245), (4, 245, 12345), (4, 247, 2147483648), (5, 185, 1103515245), (5, 191, 12345), (5, 193, 2147483647), (5, 195, 65536), (5, 233, 31), (5, 238, 991)] : List (Nat × Nat × Int)), Cond.constantLong (qOwn q.1) q.2.1 (Int64.ofInt q.2.2) ∈ qU := by
  refine List.forall_mem_cons.mpr ⟨qin 571 (by decide +kernel) (by decide +kernel), List.forall_mem_cons.mpr ⟨qin 576 (by decide +kernel) (by decide +kernel), List.forall_mem_cons.mpr ⟨qin 544 (by decide +kernel) (by decide +kernel), List.forall_mem_cons.mpr ⟨qin 545 (by decide +kernel) (by decide +kernel), List.forall_mem_cons.mpr ⟨qin 546 (by decide +kernel) (by decide +kernel), List.forall_mem_cons.mpr ⟨qin 881 (by decide +kernel) (by decide +kernel), List.forall_mem_cons.mpr ⟨qin 882 (by decide +kernel) (by decide +kernel), List.forall_mem_cons.mpr ⟨qin 883 (by decide +kernel) (by decide +kernel), List.forall_mem_cons.mpr ⟨qin 884 (by decide +kernel) (by decide +kernel), List.forall_mem_cons.mpr ⟨qin 917 (by decide +kernel) (by decide +kernel), List.forall_mem_cons.mpr ⟨qin 912 (by decide +kernel) (by decide +kernel), fun _ h => absurd h List.not_mem_nil⟩⟩⟩⟩⟩⟩⟩⟩⟩⟩⟩
theorem qJT_ok : ∀ q ∈ qJT, Cond.constantLong (qOwn q.1) q.2.1 (Int64.ofInt q.2.2) ∈ qU := by
  show ∀ q ∈ qJT, Cond.constantLong (qOwn q.1) q.2.1 (Int64.ofInt q.2.2) ∈ qU
  exact qJT_0
def qST : List (Nat × Nat) := [(6, 38)]
theorem qST_0 : ∀ q ∈ ([(6, 38)] : List (Nat × Nat)), Cond.fieldLink (qOwn q.1) q.2 "java/lang/String" "COMPACT_STRINGS" "Z" ∈ qU := by
  refine List.forall_mem_cons.mpr ⟨qin 218 (by decide +kernel) (by decide +kernel), fun _ h => absurd h List.not_mem_nil⟩
theorem qST_ok : ∀ q ∈ qST, Cond.fieldLink (qOwn q.1) q.2 "java/lang/String" "COMPACT_STRINGS" "Z" ∈ qU := by
  show ∀ q ∈ qST, Cond.fieldLink (qOwn q.1) q.2 "java/lang/String" "COMPACT_STRINGS" "Z" ∈ qU
  exact qST_0
def qNT : List (Nat × Nat × Nat) := [(0, 15, 65), (3, 37, 0), (4, 40, 65), (4, 71, 0), (4, 141, 135), (4, 163, 129), (4, 175, 132), (4, 178, 130), (4, 181, 131), (4, 221, 128)]
theorem qNT_0 : ∀ q ∈ ([(0, 15, 65), (3, 37, 0), (4, 40, 65), (4, 71, 0), (4, 141, 135), (4, 163, 129), (4, 175, 132), (4, 178, 130), (4, 181, 131), (4, 221, 128)] : List (Nat × Nat × Nat)), Cond.fieldLinkNest (qOwn q.1) q.2.1 (qTf (q.2.2 / 64) (q.2.2 % 64)).1 (qTf (q.2.2 / 64) (q.2.2 % 64)).2.1 (qTf (q.2.2 / 64) (q.2.2 % 64)).2.2.1 "UnsaidHorse" ∈ tables_1 := by
  refine List.forall_mem_cons.mpr ⟨List.mem_of_getElem? (i := 30) (by decide +kernel), List.forall_mem_cons.mpr ⟨List.mem_of_getElem? (i := 45) (by decide +kernel), List.forall_mem_cons.mpr ⟨List.mem_of_getElem? (i := 31) (by decide +kernel), List.forall_mem_cons.mpr ⟨List.mem_of_getElem? (i := 46) (by decide +kernel), List.forall_mem_cons.mpr ⟨List.mem_of_getElem? (i := 87) (by decide +kernel), List.forall_mem_cons.mpr ⟨List.mem_of_getElem? (i := 77) (by decide +kernel), List.forall_mem_cons.mpr ⟨List.mem_of_getElem? (i := 83) (by decide +kernel), List.forall_mem_cons.mpr ⟨List.mem_of_getElem? (i := 79) (by decide +kernel), List.forall_mem_cons.mpr ⟨List.mem_of_getElem? (i := 81) (by decide +kernel), List.forall_mem_cons.mpr ⟨List.mem_of_getElem? (i := 75) (by decide +kernel), fun _ h => absurd h List.not_mem_nil⟩⟩⟩⟩⟩⟩⟩⟩⟩⟩
theorem qNT_ok : ∀ q ∈ qNT, Cond.fieldLinkNest (qOwn q.1) q.2.1 (qTf (q.2.2 / 64) (q.2.2 % 64)).1 (qTf (q.2.2 / 64) (q.2.2 % 64)).2.1 (qTf (q.2.2 / 64) (q.2.2 % 64)).2.2.1 "UnsaidHorse" ∈ tables_1 := by
  show ∀ q ∈ qNT, Cond.fieldLinkNest (qOwn q.1) q.2.1 (qTf (q.2.2 / 64) (q.2.2 % 64)).1 (qTf (q.2.2 / 64) (q.2.2 % 64)).2.1 (qTf (q.2.2 / 64) (q.2.2 % 64)).2.2.1 "UnsaidHorse" ∈ tables_1
  exact qNT_0
theorem qlayP0 : ∀ k, k < 7 → lw_tbl[([93, 95, 97, 99, 101, 103, 105] : List Nat).getD k 0]? = some (u_lay RX0 TX0 k) ∧ goodWord (u_lay RX0 TX0 k) = true := by decide +kernel
theorem qlay0 : ∀ w ∈ u_ws RX0 TX0 7, w ∈ qU := by
  intro w hw
  obtain ⟨k, hk, rfl⟩ := List.mem_map.mp hw
  exact qin _ (qlayP0 k (List.mem_range.mp hk)).1 (qlayP0 k (List.mem_range.mp hk)).2
theorem qlayP1 : ∀ k, k < 2 → lw_tbl[([72, 74] : List Nat).getD k 0]? = some (u_lay RX2 TX2 k) ∧ goodWord (u_lay RX2 TX2 k) = true := by decide +kernel
theorem qlay1 : ∀ w ∈ u_ws RX2 TX2 2, w ∈ qU := by
  intro w hw
  obtain ⟨k, hk, rfl⟩ := List.mem_map.mp hw
  exact qin _ (qlayP1 k (List.mem_range.mp hk)).1 (qlayP1 k (List.mem_range.mp hk)).2
theorem qlayP2 : ∀ k, k < 8 → lw_tbl[([128, 130, 132, 134, 136, 138, 140, 142] : List Nat).getD k 0]? = some (u_lay RX3 TX3 k) ∧ goodWord (u_lay RX3 TX3 k) = true := by decide +kernel
theorem qlay2 : ∀ w ∈ u_ws RX3 TX3 8, w ∈ qU := by
  intro w hw
  obtain ⟨k, hk, rfl⟩ := List.mem_map.mp hw
  exact qin _ (qlayP2 k (List.mem_range.mp hk)).1 (qlayP2 k (List.mem_range.mp hk)).2
theorem qlayP3 : ∀ k, k < 9 → lw_tbl[([154, 156, 158, 160, 162, 164, 166, 168, 170] : List Nat).getD k 0]? = some (u_lay RX4 TX4 k) ∧ goodWord (u_lay RX4 TX4 k) = true := by decide +kernel
theorem qlay3 : ∀ w ∈ u_ws RX4 TX4 9, w ∈ qU := by
  intro w hw
  obtain ⟨k, hk, rfl⟩ := List.mem_map.mp hw
  exact qin _ (qlayP3 k (List.mem_range.mp hk)).1 (qlayP3 k (List.mem_range.mp hk)).2
theorem qlayP4 : ∀ k, k < 35 → lw_tbl[([628, 630, 632, 634, 636, 638, 640, 642, 644, 646, 648, 650, 652, 654, 656, 658, 660, 662, 664, 666, 668, 670, 672, 674, 676, 678, 680, 682, 684, 686, 688, 690, 692, 694, 696] : List Nat).getD k 0]? = some (u_lay RX5 TX5 k) ∧ goodWord (u_lay RX5 TX5 k) = true := by decide +kernel
theorem qlay4 : ∀ w ∈ u_ws RX5 TX5 35, w ∈ qU := by
  intro w hw
  obtain ⟨k, hk, rfl⟩ := List.mem_map.mp hw
  exact qin _ (qlayP4 k (List.mem_range.mp hk)).1 (qlayP4 k (List.mem_range.mp hk)).2
def qWd (y : MethodName) (b : ByteArray) (n : Nat) (r : Option FieldType) (st : Bool) : Prop := Cond.code y b n r ∈ qU ∧ Cond.initialized y.cls ∈ qU ∧ (match st with | true => Cond.static y ∈ qU | false => Cond.instanceMethod y ∈ qU ∧ Cond.selects y.cls y y ∈ qU)
theorem qw0 : qWd (qyL.getD 0 yL_law) (qbL.getD 0 cL_law) (qnLL.getD 0 0) (qrTL.getD 0 none) (qstL.getD 0 false) := ⟨qin 340 (by decide +kernel) (by decide +kernel), qin 52 (by decide +kernel) (by decide +kernel), qin 339 (by decide +kernel) (by decide +kernel)⟩
theorem qw1 : qWd (qyL.getD 1 yL_law) (qbL.getD 1 cL_law) (qnLL.getD 1 0) (qrTL.getD 1 none) (qstL.getD 1 false) := ⟨qin 326 (by decide +kernel) (by decide +kernel), qin 52 (by decide +kernel) (by decide +kernel), qin 325 (by decide +kernel) (by decide +kernel)⟩
theorem qw2 : qWd (qyL.getD 2 yL_law) (qbL.getD 2 cL_law) (qnLL.getD 2 0) (qrTL.getD 2 none) (qstL.getD 2 false) := ⟨qin 180 (by decide +kernel) (by decide +kernel), qin 42 (by decide +kernel) (by decide +kernel), qin 178 (by decide +kernel) (by decide +kernel), qin 179 (by decide +kernel) (by decide +kernel)⟩
theorem qw3 : qWd (qyL.getD 3 yL_law) (qbL.getD 3 cL_law) (qnLL.getD 3 0) (qrTL.getD 3 none) (qstL.getD 3 false) := ⟨qin 205 (by decide +kernel) (by decide +kernel), qin 42 (by decide +kernel) (by decide +kernel), qin 203 (by decide +kernel) (by decide +kernel), qin 204 (by decide +kernel) (by decide +kernel)⟩
theorem qw4 : qWd (qyL.getD 4 yL_law) (qbL.getD 4 cL_law) (qnLL.getD 4 0) (qrTL.getD 4 none) (qstL.getD 4 false) := ⟨qin 299 (by decide +kernel) (by decide +kernel), qin 42 (by decide +kernel) (by decide +kernel), qin 297 (by decide +kernel) (by decide +kernel), qin 298 (by decide +kernel) (by decide +kernel)⟩
theorem qw5 : qWd (qyL.getD 5 yL_law) (qbL.getD 5 cL_law) (qnLL.getD 5 0) (qrTL.getD 5 none) (qstL.getD 5 false) := ⟨qin 200 (by decide +kernel) (by decide +kernel), qin 42 (by decide +kernel) (by decide +kernel), qin 198 (by decide +kernel) (by decide +kernel), qin 199 (by decide +kernel) (by decide +kernel)⟩
theorem qw6 : qWd (qyL.getD 6 yL_law) (qbL.getD 6 cL_law) (qnLL.getD 6 0) (qrTL.getD 6 none) (qstL.getD 6 false) := ⟨qin 192 (by decide +kernel) (by decide +kernel), qin 42 (by decide +kernel) (by decide +kernel), qin 190 (by decide +kernel) (by decide +kernel), qin 191 (by decide +kernel) (by decide +kernel)⟩
theorem qw7 : qWd (qyL.getD 7 yL_law) (qbL.getD 7 cL_law) (qnLL.getD 7 0) (qrTL.getD 7 none) (qstL.getD 7 false) := ⟨qin 312 (by decide +kernel) (by decide +kernel), qin 42 (by decide +kernel) (by decide +kernel), qin 310 (by decide +kernel) (by decide +kernel), qin 311 (by decide +kernel) (by decide +kernel)⟩
theorem qw8 : qWd (qyL.getD 8 yL_law) (qbL.getD 8 cL_law) (qnLL.getD 8 0) (qrTL.getD 8 none) (qstL.getD 8 false) := ⟨qin 196 (by decide +kernel) (by decide +kernel), qin 42 (by decide +kernel) (by decide +kernel), qin 195 (by decide +kernel) (by decide +kernel), qin 0 (by decide +kernel) (by decide +kernel)⟩
theorem qw9 : qWd (qyL.getD 9 yL_law) (qbL.getD 9 cL_law) (qnLL.getD 9 0) (qrTL.getD 9 none) (qstL.getD 9 false) := ⟨qin 303 (by decide +kernel) (by decide +kernel), qin 42 (by decide +kernel) (by decide +kernel), qin 302 (by decide +kernel) (by decide +kernel), qin 2 (by decide +kernel) (by decide +kernel)⟩
theorem qw10 : qWd (qyL.getD 10 yL_law) (qbL.getD 10 cL_law) (qnLL.getD 10 0) (qrTL.getD 10 none) (qstL.getD 10 false) := ⟨qin 295 (by decide +kernel) (by decide +kernel), qin 42 (by decide +kernel) (by decide +kernel), qin 294 (by decide +kernel) (by decide +kernel), qin 1 (by decide +kernel) (by decide +kernel)⟩
theorem qw11 : qWd (qyL.getD 11 yL_law) (qbL.getD 11 cL_law) (qnLL.getD 11 0) (qrTL.getD 11 none) (qstL.getD 11 false) := ⟨qin 317 (by decide +kernel) (by decide +kernel), qin 43 (by decide +kernel) (by decide +kernel), qin 315 (by decide +kernel) (by decide +kernel), qin 316 (by decide +kernel) (by decide +kernel)⟩
theorem qw12 : qWd (qyL.getD 12 yL_law) (qbL.getD 12 cL_law) (qnLL.getD 12 0) (qrTL.getD 12 none) (qstL.getD 12 false) := ⟨qin 323 (by decide +kernel) (by decide +kernel), qin 43 (by decide +kernel) (by decide +kernel), qin 322 (by decide +kernel) (by decide +kernel), qin 3 (by decide +kernel) (by decide +kernel)⟩
theorem qw13 : qWd (qyL.getD 13 yL_law) (qbL.getD 13 cL_law) (qnLL.getD 13 0) (qrTL.getD 13 none) (qstL.getD 13 false) := ⟨qin 329 (by decide +kernel) (by decide +kernel), qin 43 (by decide +kernel) (by decide +kernel), qin 328 (by decide +kernel) (by decide +kernel)⟩
theorem qw14 : qWd (qyL.getD 14 yL_law) (qbL.getD 14 cL_law) (qnLL.getD 14 0) (qrTL.getD 14 none) (qstL.getD 14 false) := ⟨qin 333 (by decide +kernel) (by decide +kernel), qin 43 (by decide +kernel) (by decide +kernel), qin 332 (by decide +kernel) (by decide +kernel), qin 4 (by decide +kernel) (by decide +kernel)⟩
theorem qw15 : qWd (qyL.getD 15 yL_law) (qbL.getD 15 cL_law) (qnLL.getD 15 0) (qrTL.getD 15 none) (qstL.getD 15 false) := ⟨qin 357 (by decide +kernel) (by decide +kernel), qin 43 (by decide +kernel) (by decide +kernel), qin 355 (by decide +kernel) (by decide +kernel), qin 356 (by decide +kernel) (by decide +kernel)⟩
theorem qw16 : qWd (qyL.getD 16 yL_law) (qbL.getD 16 cL_law) (qnLL.getD 16 0) (qrTL.getD 16 none) (qstL.getD 16 false) := ⟨qin 429 (by decide +kernel) (by decide +kernel), qin 43 (by decide +kernel) (by decide +kernel), qin 427 (by decide +kernel) (by decide +kernel), qin 428 (by decide +kernel) (by decide +kernel)⟩
theorem qw17 : qWd (qyL.getD 17 yL_law) (qbL.getD 17 cL_law) (qnLL.getD 17 0) (qrTL.getD 17 none) (qstL.getD 17 false) := ⟨qin 408 (by decide +kernel) (by decide +kernel), qin 43 (by decide +kernel) (by decide +kernel), qin 406 (by decide +kernel) (by decide +kernel), qin 407 (by decide +kernel) (by decide +kernel)⟩
theorem qw18 : qWd (qyL.getD 18 yL_law) (qbL.getD 18 cL_law) (qnLL.getD 18 0) (qrTL.getD 18 none) (qstL.getD 18 false) := ⟨qin 366 (by decide +kernel) (by decide +kernel), qin 43 (by decide +kernel) (by decide +kernel), qin 364 (by decide +kernel) (by decide +kernel), qin 365 (by decide +kernel) (by decide +kernel)⟩
theorem qw19 : qWd (qyL.getD 19 yL_law) (qbL.getD 19 cL_law) (qnLL.getD 19 0) (qrTL.getD 19 none) (qstL.getD 19 false) := ⟨qin 370 (by decide +kernel) (by decide +kernel), qin 43 (by decide +kernel) (by decide +kernel), qin 368 (by decide +kernel) (by decide +kernel), qin 369 (by decide +kernel) (by decide +kernel)⟩
theorem qw20 : qWd (qyL.getD 20 yL_law) (qbL.getD 20 cL_law) (qnLL.getD 20 0) (qrTL.getD 20 none) (qstL.getD 20 false) := ⟨qin 337 (by decide +kernel) (by decide +kernel), qin 43 (by decide +kernel) (by decide +kernel), qin 335 (by decide +kernel) (by decide +kernel), qin 336 (by decide +kernel) (by decide +kernel)⟩
theorem qw21 : qWd (qyL.getD 21 yL_law) (qbL.getD 21 cL_law) (qnLL.getD 21 0) (qrTL.getD 21 none) (qstL.getD 21 false) := ⟨qin 348 (by decide +kernel) (by decide +kernel), qin 43 (by decide +kernel) (by decide +kernel), qin 346 (by decide +kernel) (by decide +kernel), qin 347 (by decide +kernel) (by decide +kernel)⟩
theorem qw22 : qWd (qyL.getD 22 yL_law) (qbL.getD 22 cL_law) (qnLL.getD 22 0) (qrTL.getD 22 none) (qstL.getD 22 false) := ⟨qin 399 (by decide +kernel) (by decide +kernel), qin 43 (by decide +kernel) (by decide +kernel), qin 397 (by decide +kernel) (by decide +kernel), qin 398 (by decide +kernel) (by decide +kernel)⟩
theorem qw23 : qWd (qyL.getD 23 yL_law) (qbL.getD 23 cL_law) (qnLL.getD 23 0) (qrTL.getD 23 none) (qstL.getD 23 false) := ⟨qin 374 (by decide +kernel) (by decide +kernel), qin 43 (by decide +kernel) (by decide +kernel), qin 372 (by decide +kernel) (by decide +kernel), qin 373 (by decide +kernel) (by decide +kernel)⟩
theorem qw24 : qWd (qyL.getD 24 yL_law) (qbL.getD 24 cL_law) (qnLL.getD 24 0) (qrTL.getD 24 none) (qstL.getD 24 false) := ⟨qin 378 (by decide +kernel) (by decide +kernel), qin 43 (by decide +kernel) (by decide +kernel), qin 376 (by decide +kernel) (by decide +kernel), qin 377 (by decide +kernel) (by decide +kernel)⟩
theorem qw25 : qWd (qyL.getD 25 yL_law) (qbL.getD 25 cL_law) (qnLL.getD 25 0) (qrTL.getD 25 none) (qstL.getD 25 false) := ⟨qin 514 (by decide +kernel) (by decide +kernel), qin 43 (by decide +kernel) (by decide +kernel), qin 512 (by decide +kernel) (by decide +kernel), qin 513 (by decide +kernel) (by decide +kernel)⟩
theorem qw26 : qWd (qyL.getD 26 yL_law) (qbL.getD 26 cL_law) (qnLL.getD 26 0) (qrTL.getD 26 none) (qstL.getD 26 false) := ⟨qin 344 (by decide +kernel) (by decide +kernel), qin 44 (by decide +kernel) (by decide +kernel), qin 342 (by decide +kernel) (by decide +kernel), qin 343 (by decide +kernel) (by decide +kernel)⟩
theorem qw27 : qWd (qyL.getD 27 yL_law) (qbL.getD 27 cL_law) (qnLL.getD 27 0) (qrTL.getD 27 none) (qstL.getD 27 false) := ⟨qin 471 (by decide +kernel) (by decide +kernel), qin 44 (by decide +kernel) (by decide +kernel), qin 469 (by decide +kernel) (by decide +kernel), qin 470 (by decide +kernel) (by decide +kernel)⟩
theorem qw28 : qWd (qyL.getD 28 yL_law) (qbL.getD 28 cL_law) (qnLL.getD 28 0) (qrTL.getD 28 none) (qstL.getD 28 false) := ⟨qin 361 (by decide +kernel) (by decide +kernel), qin 44 (by decide +kernel) (by decide +kernel), qin 359 (by decide +kernel) (by decide +kernel), qin 360 (by decide +kernel) (by decide +kernel)⟩
theorem qw29 : qWd (qyL.getD 29 yL_law) (qbL.getD 29 cL_law) (qnLL.getD 29 0) (qrTL.getD 29 none) (qstL.getD 29 false) := ⟨qin 438 (by decide +kernel) (by decide +kernel), qin 44 (by decide +kernel) (by decide +kernel), qin 436 (by decide +kernel) (by decide +kernel), qin 437 (by decide +kernel) (by decide +kernel)⟩
theorem qw30 : qWd (qyL.getD 30 yL_law) (qbL.getD 30 cL_law) (qnLL.getD 30 0) (qrTL.getD 30 none) (qstL.getD 30 false) := ⟨qin 383 (by decide +kernel) (by decide +kernel), qin 44 (by decide +kernel) (by decide +kernel), qin 381 (by decide +kernel) (by decide +kernel), qin 382 (by decide +kernel) (by decide +kernel)⟩
theorem qw31 : qWd (qyL.getD 31 yL_law) (qbL.getD 31 cL_law) (qnLL.getD 31 0) (qrTL.getD 31 none) (qstL.getD 31 false) := ⟨qin 387 (by decide +kernel) (by decide +kernel), qin 44 (by decide +kernel) (by decide +kernel), qin 385 (by decide +kernel) (by decide +kernel), qin 386 (by decide +kernel) (by decide +kernel)⟩
theorem qw32 : qWd (qyL.getD 32 yL_law) (qbL.getD 32 cL_law) (qnLL.getD 32 0) (qrTL.getD 32 none) (qstL.getD 32 false) := ⟨qin 417 (by decide +kernel) (by decide +kernel), qin 44 (by decide +kernel) (by decide +kernel), qin 415 (by decide +kernel) (by decide +kernel), qin 416 (by decide +kernel) (by decide +kernel)⟩
theorem qw33 : qWd (qyL.getD 33 yL_law) (qbL.getD 33 cL_law) (qnLL.getD 33 0) (qrTL.getD 33 none) (qstL.getD 33 false) := ⟨qin 421 (by decide +kernel) (by decide +kernel), qin 44 (by decide +kernel) (by decide +kernel), qin 419 (by decide +kernel) (by decide +kernel), qin 420 (by decide +kernel) (by decide +kernel)⟩
theorem qw34 : qWd (qyL.getD 34 yL_law) (qbL.getD 34 cL_law) (qnLL.getD 34 0) (qrTL.getD 34 none) (qstL.getD 34 false) := ⟨qin 391 (by decide +kernel) (by decide +kernel), qin 44 (by decide +kernel) (by decide +kernel), qin 389 (by decide +kernel) (by decide +kernel), qin 390 (by decide +kernel) (by decide +kernel)⟩
theorem qw35 : qWd (qyL.getD 35 yL_law) (qbL.getD 35 cL_law) (qnLL.getD 35 0) (qrTL.getD 35 none) (qstL.getD 35 false) := ⟨qin 554 (by decide +kernel) (by decide +kernel), qin 44 (by decide +kernel) (by decide +kernel), qin 552 (by decide +kernel) (by decide +kernel), qin 553 (by decide +kernel) (by decide +kernel)⟩
theorem qw36 : qWd (qyL.getD 36 yL_law) (qbL.getD 36 cL_law) (qnLL.getD 36 0) (qrTL.getD 36 none) (qstL.getD 36 false) := ⟨qin 459 (by decide +kernel) (by decide +kernel), qin 44 (by decide +kernel) (by decide +kernel), qin 457 (by decide +kernel) (by decide +kernel), qin 458 (by decide +kernel) (by decide +kernel)⟩
theorem qw37 : qWd (qyL.getD 37 yL_law) (qbL.getD 37 cL_law) (qnLL.getD 37 0) (qrTL.getD 37 none) (qstL.getD 37 false) := ⟨qin 434 (by decide +kernel) (by decide +kernel), qin 44 (by decide +kernel) (by decide +kernel), qin 432 (by decide +kernel) (by decide +kernel), qin 433 (by decide +kernel) (by decide +kernel)⟩
theorem qw38 : qWd (qyL.getD 38 yL_law) (qbL.getD 38 cL_law) (qnLL.getD 38 0) (qrTL.getD 38 none) (qstL.getD 38 false) := ⟨qin 448 (by decide +kernel) (by decide +kernel), qin 44 (by decide +kernel) (by decide +kernel), qin 446 (by decide +kernel) (by decide +kernel), qin 447 (by decide +kernel) (by decide +kernel)⟩
theorem qw39 : qWd (qyL.getD 39 yL_law) (qbL.getD 39 cL_law) (qnLL.getD 39 0) (qrTL.getD 39 none) (qstL.getD 39 false) := ⟨qin 453 (by decide +kernel) (by decide +kernel), qin 44 (by decide +kernel) (by decide +kernel), qin 451 (by decide +kernel) (by decide +kernel), qin 452 (by decide +kernel) (by decide +kernel)⟩
theorem qw40 : qWd (qyL.getD 40 yL_law) (qbL.getD 40 cL_law) (qnLL.getD 40 0) (qrTL.getD 40 none) (qstL.getD 40 false) := ⟨qin 489 (by decide +kernel) (by decide +kernel), qin 44 (by decide +kernel) (by decide +kernel), qin 487 (by decide +kernel) (by decide +kernel), qin 488 (by decide +kernel) (by decide +kernel)⟩
theorem qw41 : qWd (qyL.getD 41 yL_law) (qbL.getD 41 cL_law) (qnLL.getD 41 0) (qrTL.getD 41 none) (qstL.getD 41 false) := ⟨qin 444 (by decide +kernel) (by decide +kernel), qin 44 (by decide +kernel) (by decide +kernel), qin 442 (by decide +kernel) (by decide +kernel), qin 443 (by decide +kernel) (by decide +kernel)⟩
theorem qw42 : qWd (qyL.getD 42 yL_law) (qbL.getD 42 cL_law) (qnLL.getD 42 0) (qrTL.getD 42 none) (qstL.getD 42 false) := ⟨qin 498 (by decide +kernel) (by decide +kernel), qin 44 (by decide +kernel) (by decide +kernel), qin 496 (by decide +kernel) (by decide +kernel), qin 497 (by decide +kernel) (by decide +kernel)⟩
theorem qw43 : qWd (qyL.getD 43 yL_law) (qbL.getD 43 cL_law) (qnLL.getD 43 0) (qrTL.getD 43 none) (qstL.getD 43 false) := ⟨qin 476 (by decide +kernel) (by decide +kernel), qin 44 (by decide +kernel) (by decide +kernel), qin 474 (by decide +kernel) (by decide +kernel), qin 475 (by decide +kernel) (by decide +kernel)⟩
theorem qw44 : qWd (qyL.getD 44 yL_law) (qbL.getD 44 cL_law) (qnLL.getD 44 0) (qrTL.getD 44 none) (qstL.getD 44 false) := ⟨qin 510 (by decide +kernel) (by decide +kernel), qin 44 (by decide +kernel) (by decide +kernel), qin 508 (by decide +kernel) (by decide +kernel), qin 509 (by decide +kernel) (by decide +kernel)⟩
theorem qw45 : qWd (qyL.getD 45 yL_law) (qbL.getD 45 cL_law) (qnLL.getD 45 0) (qrTL.getD 45 none) (qstL.getD 45 false) := ⟨qin 176 (by decide +kernel) (by decide +kernel), qin 41 (by decide +kernel) (by decide +kernel), qin 174 (by decide +kernel) (by decide +kernel), qin 175 (by decide +kernel) (by decide +kernel)⟩
theorem qw46 : qWd (qyL.getD 46 yL_law) (qbL.getD 46 cL_law) (qnLL.getD 46 0) (qrTL.getD 46 none) (qstL.getD 46 false) := ⟨qin 184 (by decide +kernel) (by decide +kernel), qin 41 (by decide +kernel) (by decide +kernel), qin 182 (by decide +kernel) (by decide +kernel), qin 183 (by decide +kernel) (by decide +kernel)⟩
theorem qw47 : qWd (qyL.getD 47 yL_law) (qbL.getD 47 cL_law) (qnLL.getD 47 0) (qrTL.getD 47 none) (qstL.getD 47 false) := ⟨qin 188 (by decide +kernel) (by decide +kernel), qin 41 (by decide +kernel) (by decide +kernel), qin 186 (by decide +kernel) (by decide +kernel), qin 187 (by decide +kernel) (by decide +kernel)⟩
theorem qw48 : qWd (qyL.getD 48 yL_law) (qbL.getD 48 cL_law) (qnLL.getD 48 0) (qrTL.getD 48 none) (qstL.getD 48 false) := ⟨qin 308 (by decide +kernel) (by decide +kernel), qin 41 (by decide +kernel) (by decide +kernel), qin 306 (by decide +kernel) (by decide +kernel), qin 307 (by decide +kernel) (by decide +kernel)⟩
theorem qw49 : qWd (qyL.getD 49 yL_law) (qbL.getD 49 cL_law) (qnLL.getD 49 0) (qrTL.getD 49 none) (qstL.getD 49 false) := ⟨qin 353 (by decide +kernel) (by decide +kernel), qin 41 (by decide +kernel) (by decide +kernel), qin 351 (by decide +kernel) (by decide +kernel), qin 352 (by decide +kernel) (by decide +kernel)⟩
theorem qw50 : qWd (qyL.getD 50 yL_law) (qbL.getD 50 cL_law) (qnLL.getD 50 0) (qrTL.getD 50 none) (qstL.getD 50 false) := ⟨qin 395 (by decide +kernel) (by decide +kernel), qin 41 (by decide +kernel) (by decide +kernel), qin 393 (by decide +kernel) (by decide +kernel), qin 394 (by decide +kernel) (by decide +kernel)⟩
theorem qw51 : qWd (qyL.getD 51 yL_law) (qbL.getD 51 cL_law) (qnLL.getD 51 0) (qrTL.getD 51 none) (qstL.getD 51 false) := ⟨qin 404 (by decide +kernel) (by decide +kernel), qin 41 (by decide +kernel) (by decide +kernel), qin 402 (by decide +kernel) (by decide +kernel), qin 403 (by decide +kernel) (by decide +kernel)⟩
theorem qw52 : qWd (qyL.getD 52 yL_law) (qbL.getD 52 cL_law) (qnLL.getD 52 0) (qrTL.getD 52 none) (qstL.getD 52 false) := ⟨qin 413 (by decide +kernel) (by decide +kernel), qin 41 (by decide +kernel) (by decide +kernel), qin 411 (by decide +kernel) (by decide +kernel), qin 412 (by decide +kernel) (by decide +kernel)⟩
theorem qw53 : qWd (qyL.getD 53 yL_law) (qbL.getD 53 cL_law) (qnLL.getD 53 0) (qrTL.getD 53 none) (qstL.getD 53 false) := ⟨qin 425 (by decide +kernel) (by decide +kernel), qin 41 (by decide +kernel) (by decide +kernel), qin 423 (by decide +kernel) (by decide +kernel), qin 424 (by decide +kernel) (by decide +kernel)⟩
theorem qw54 : qWd (qyL.getD 54 yL_law) (qbL.getD 54 cL_law) (qnLL.getD 54 0) (qrTL.getD 54 none) (qstL.getD 54 false) := ⟨qin 463 (by decide +kernel) (by decide +kernel), qin 41 (by decide +kernel) (by decide +kernel), qin 461 (by decide +kernel) (by decide +kernel), qin 462 (by decide +kernel) (by decide +kernel)⟩
theorem qw55 : qWd (qyL.getD 55 yL_law) (qbL.getD 55 cL_law) (qnLL.getD 55 0) (qrTL.getD 55 none) (qstL.getD 55 false) := ⟨qin 485 (by decide +kernel) (by decide +kernel), qin 41 (by decide +kernel) (by decide +kernel), qin 483 (by decide +kernel) (by decide +kernel), qin 484 (by decide +kernel) (by decide +kernel)⟩
theorem qw56 : qWd (qyL.getD 56 yL_law) (qbL.getD 56 cL_law) (qnLL.getD 56 0) (qrTL.getD 56 none) (qstL.getD 56 false) := ⟨qin 494 (by decide +kernel) (by decide +kernel), qin 41 (by decide +kernel) (by decide +kernel), qin 492 (by decide +kernel) (by decide +kernel), qin 493 (by decide +kernel) (by decide +kernel)⟩
theorem qw57 : qWd (qyL.getD 57 yL_law) (qbL.getD 57 cL_law) (qnLL.getD 57 0) (qrTL.getD 57 none) (qstL.getD 57 false) := ⟨qin 502 (by decide +kernel) (by decide +kernel), qin 41 (by decide +kernel) (by decide +kernel), qin 500 (by decide +kernel) (by decide +kernel), qin 501 (by decide +kernel) (by decide +kernel)⟩
theorem qw58 : qWd (qyL.getD 58 yL_law) (qbL.getD 58 cL_law) (qnLL.getD 58 0) (qrTL.getD 58 none) (qstL.getD 58 false) := ⟨qin 506 (by decide +kernel) (by decide +kernel), qin 41 (by decide +kernel) (by decide +kernel), qin 504 (by decide +kernel) (by decide +kernel), qin 505 (by decide +kernel) (by decide +kernel)⟩
theorem qw59 : qWd (qyL.getD 59 yL_law) (qbL.getD 59 cL_law) (qnLL.getD 59 0) (qrTL.getD 59 none) (qstL.getD 59 false) := ⟨qin 520 (by decide +kernel) (by decide +kernel), qin 41 (by decide +kernel) (by decide +kernel), qin 518 (by decide +kernel) (by decide +kernel), qin 519 (by decide +kernel) (by decide +kernel)⟩
theorem qw60 : qWd (qyL.getD 60 yL_law) (qbL.getD 60 cL_law) (qnLL.getD 60 0) (qrTL.getD 60 none) (qstL.getD 60 false) := ⟨qin 536 (by decide +kernel) (by decide +kernel), qin 41 (by decide +kernel) (by decide +kernel), qin 534 (by decide +kernel) (by decide +kernel), qin 535 (by decide +kernel) (by decide +kernel)⟩
theorem qw61 : qWd (qyL.getD 61 yL_law) (qbL.getD 61 cL_law) (qnLL.getD 61 0) (qrTL.getD 61 none) (qstL.getD 61 false) := ⟨qin 558 (by decide +kernel) (by decide +kernel), qin 41 (by decide +kernel) (by decide +kernel), qin 556 (by decide +kernel) (by decide +kernel), qin 557 (by decide +kernel) (by decide +kernel)⟩
theorem qw62 : qWd (qyL.getD 62 yL_law) (qbL.getD 62 cL_law) (qnLL.getD 62 0) (qrTL.getD 62 none) (qstL.getD 62 false) := ⟨qin 562 (by decide +kernel) (by decide +kernel), qin 41 (by decide +kernel) (by decide +kernel), qin 560 (by decide +kernel) (by decide +kernel), qin 561 (by decide +kernel) (by decide +kernel)⟩
theorem qw63 : qWd (qyL.getD 63 yL_law) (qbL.getD 63 cL_law) (qnLL.getD 63 0) (qrTL.getD 63 none) (qstL.getD 63 false) := ⟨qin 566 (by decide +kernel) (by decide +kernel), qin 41 (by decide +kernel) (by decide +kernel), qin 564 (by decide +kernel) (by decide +kernel), qin 565 (by decide +kernel) (by decide +kernel)⟩
theorem qw64 : qWd (qyL.getD 64 yL_law) (qbL.getD 64 cL_law) (qnLL.getD 64 0) (qrTL.getD 64 none) (qstL.getD 64 false) := ⟨qin 570 (by decide +kernel) (by decide +kernel), qin 41 (by decide +kernel) (by decide +kernel), qin 568 (by decide +kernel) (by decide +kernel), qin 569 (by decide +kernel) (by decide +kernel)⟩
theorem qw65 : qWd (qyL.getD 65 yL_law) (qbL.getD 65 cL_law) (qnLL.getD 65 0) (qrTL.getD 65 none) (qstL.getD 65 false) := ⟨qin 575 (by decide +kernel) (by decide +kernel), qin 41 (by decide +kernel) (by decide +kernel), qin 574 (by decide +kernel) (by decide +kernel), qin 8 (by decide +kernel) (by decide +kernel)⟩
theorem qw66 : qWd (qyL.getD 66 yL_law) (qbL.getD 66 cL_law) (qnLL.getD 66 0) (qrTL.getD 66 none) (qstL.getD 66 false) := ⟨qin 581 (by decide +kernel) (by decide +kernel), qin 41 (by decide +kernel) (by decide +kernel), qin 580 (by decide +kernel) (by decide +kernel), qin 9 (by decide +kernel) (by decide +kernel)⟩
theorem qw67 : qWd (qyL.getD 67 yL_law) (qbL.getD 67 cL_law) (qnLL.getD 67 0) (qrTL.getD 67 none) (qstL.getD 67 false) := ⟨qin 467 (by decide +kernel) (by decide +kernel), qin 41 (by decide +kernel) (by decide +kernel), qin 466 (by decide +kernel) (by decide +kernel), qin 5 (by decide +kernel) (by decide +kernel)⟩
theorem qw68 : qWd (qyL.getD 68 yL_law) (qbL.getD 68 cL_law) (qnLL.getD 68 0) (qrTL.getD 68 none) (qstL.getD 68 false) := ⟨qin 479 (by decide +kernel) (by decide +kernel), qin 41 (by decide +kernel) (by decide +kernel), qin 478 (by decide +kernel) (by decide +kernel)⟩
theorem qw69 : qWd (qyL.getD 69 yL_law) (qbL.getD 69 cL_law) (qnLL.getD 69 0) (qrTL.getD 69 none) (qstL.getD 69 false) := ⟨qin 524 (by decide +kernel) (by decide +kernel), qin 41 (by decide +kernel) (by decide +kernel), qin 523 (by decide +kernel) (by decide +kernel), qin 6 (by decide +kernel) (by decide +kernel)⟩
theorem qw70 : qWd (qyL.getD 70 yL_law) (qbL.getD 70 cL_law) (qnLL.getD 70 0) (qrTL.getD 70 none) (qstL.getD 70 false) := ⟨qin 540 (by decide +kernel) (by decide +kernel), qin 41 (by decide +kernel) (by decide +kernel), qin 539 (by decide +kernel) (by decide +kernel), qin 7 (by decide +kernel) (by decide +kernel)⟩
theorem qw71 : qWd (qyL.getD 71 yL_law) (qbL.getD 71 cL_law) (qnLL.getD 71 0) (qrTL.getD 71 none) (qstL.getD 71 false) := ⟨qin 543 (by decide +kernel) (by decide +kernel), qin 41 (by decide +kernel) (by decide +kernel), qin 542 (by decide +kernel) (by decide +kernel)⟩
theorem qw72 : qWd (qyL.getD 72 yL_law) (qbL.getD 72 cL_law) (qnLL.getD 72 0) (qrTL.getD 72 none) (qstL.getD 72 false) := ⟨qin 549 (by decide +kernel) (by decide +kernel), qin 41 (by decide +kernel) (by decide +kernel), qin 548 (by decide +kernel) (by decide +kernel)⟩
theorem qw73 : qWd (qyL.getD 73 yL_law) (qbL.getD 73 cL_law) (qnLL.getD 73 0) (qrTL.getD 73 none) (qstL.getD 73 false) := ⟨qin 705 (by decide +kernel) (by decide +kernel), qin 45 (by decide +kernel) (by decide +kernel), qin 704 (by decide +kernel) (by decide +kernel)⟩
theorem qw74 : qWd (qyL.getD 74 yL_law) (qbL.getD 74 cL_law) (qnLL.getD 74 0) (qrTL.getD 74 none) (qstL.getD 74 false) := ⟨qin 755 (by decide +kernel) (by decide +kernel), qin 45 (by decide +kernel) (by decide +kernel), qin 754 (by decide +kernel) (by decide +kernel)⟩
theorem qw75 : qWd (qyL.getD 75 yL_law) (qbL.getD 75 cL_law) (qnLL.getD 75 0) (qrTL.getD 75 none) (qstL.getD 75 false) := ⟨qin 887 (by decide +kernel) (by decide +kernel), qin 45 (by decide +kernel) (by decide +kernel), qin 886 (by decide +kernel) (by decide +kernel)⟩
theorem qw76 : qWd (qyL.getD 76 yL_law) (qbL.getD 76 cL_law) (qnLL.getD 76 0) (qrTL.getD 76 none) (qstL.getD 76 false) := ⟨qin 702 (by decide +kernel) (by decide +kernel), qin 45 (by decide +kernel) (by decide +kernel), qin 700 (by decide +kernel) (by decide +kernel), qin 701 (by decide +kernel) (by decide +kernel)⟩
theorem qw77 : qWd (qyL.getD 77 yL_law) (qbL.getD 77 cL_law) (qnLL.getD 77 0) (qrTL.getD 77 none) (qstL.getD 77 false) := ⟨qin 709 (by decide +kernel) (by decide +kernel), qin 45 (by decide +kernel) (by decide +kernel), qin 707 (by decide +kernel) (by decide +kernel), qin 708 (by decide +kernel) (by decide +kernel)⟩
theorem qw78 : qWd (qyL.getD 78 yL_law) (qbL.getD 78 cL_law) (qnLL.getD 78 0) (qrTL.getD 78 none) (qstL.getD 78 false) := ⟨qin 724 (by decide +kernel) (by decide +kernel), qin 45 (by decide +kernel) (by decide +kernel), qin 723 (by decide +kernel) (by decide +kernel)⟩
theorem qw79 : qWd (qyL.getD 79 yL_law) (qbL.getD 79 cL_law) (qnLL.getD 79 0) (qrTL.getD 79 none) (qstL.getD 79 false) := ⟨qin 728 (by decide +kernel) (by decide +kernel), qin 45 (by decide +kernel) (by decide +kernel), qin 727 (by decide +kernel) (by decide +kernel), qin 12 (by decide +kernel) (by decide +kernel)⟩
theorem qw80 : qWd (qyL.getD 80 yL_law) (qbL.getD 80 cL_law) (qnLL.getD 80 0) (qrTL.getD 80 none) (qstL.getD 80 false) := ⟨qin 721 (by decide +kernel) (by decide +kernel), qin 45 (by decide +kernel) (by decide +kernel), qin 720 (by decide +kernel) (by decide +kernel), qin 11 (by decide +kernel) (by decide +kernel)⟩
theorem qw81 : qWd (qyL.getD 81 yL_law) (qbL.getD 81 cL_law) (qnLL.getD 81 0) (qrTL.getD 81 none) (qstL.getD 81 false) := ⟨qin 732 (by decide +kernel) (by decide +kernel), qin 45 (by decide +kernel) (by decide +kernel), qin 731 (by decide +kernel) (by decide +kernel), qin 13 (by decide +kernel) (by decide +kernel)⟩
theorem qw82 : qWd (qyL.getD 82 yL_law) (qbL.getD 82 cL_law) (qnLL.getD 82 0) (qrTL.getD 82 none) (qstL.getD 82 false) := ⟨qin 717 (by decide +kernel) (by decide +kernel), qin 45 (by decide +kernel) (by decide +kernel), qin 716 (by decide +kernel) (by decide +kernel), qin 10 (by decide +kernel) (by decide +kernel)⟩
theorem qw83 : qWd (qyL.getD 83 yL_law) (qbL.getD 83 cL_law) (qnLL.getD 83 0) (qrTL.getD 83 none) (qstL.getD 83 false) := ⟨qin 713 (by decide +kernel) (by decide +kernel), qin 45 (by decide +kernel) (by decide +kernel), qin 711 (by decide +kernel) (by decide +kernel), qin 712 (by decide +kernel) (by decide +kernel)⟩
theorem qw84 : qWd (qyL.getD 84 yL_law) (qbL.getD 84 cL_law) (qnLL.getD 84 0) (qrTL.getD 84 none) (qstL.getD 84 false) := ⟨qin 736 (by decide +kernel) (by decide +kernel), qin 45 (by decide +kernel) (by decide +kernel), qin 734 (by decide +kernel) (by decide +kernel), qin 735 (by decide +kernel) (by decide +kernel)⟩
theorem qw85 : qWd (qyL.getD 85 yL_law) (qbL.getD 85 cL_law) (qnLL.getD 85 0) (qrTL.getD 85 none) (qstL.getD 85 false) := ⟨qin 744 (by decide +kernel) (by decide +kernel), qin 45 (by decide +kernel) (by decide +kernel), qin 743 (by decide +kernel) (by decide +kernel), qin 14 (by decide +kernel) (by decide +kernel)⟩
theorem qw86 : qWd (qyL.getD 86 yL_law) (qbL.getD 86 cL_law) (qnLL.getD 86 0) (qrTL.getD 86 none) (qstL.getD 86 false) := ⟨qin 775 (by decide +kernel) (by decide +kernel), qin 45 (by decide +kernel) (by decide +kernel), qin 774 (by decide +kernel) (by decide +kernel), qin 19 (by decide +kernel) (by decide +kernel)⟩
theorem qw87 : qWd (qyL.getD 87 yL_law) (qbL.getD 87 cL_law) (qnLL.getD 87 0) (qrTL.getD 87 none) (qstL.getD 87 false) := ⟨qin 799 (by decide +kernel) (by decide +kernel), qin 45 (by decide +kernel) (by decide +kernel), qin 798 (by decide +kernel) (by decide +kernel), qin 23 (by decide +kernel) (by decide +kernel)⟩
theorem qw88 : qWd (qyL.getD 88 yL_law) (qbL.getD 88 cL_law) (qnLL.getD 88 0) (qrTL.getD 88 none) (qstL.getD 88 false) := ⟨qin 752 (by decide +kernel) (by decide +kernel), qin 45 (by decide +kernel) (by decide +kernel), qin 751 (by decide +kernel) (by decide +kernel), qin 16 (by decide +kernel) (by decide +kernel)⟩
theorem qw89 : qWd (qyL.getD 89 yL_law) (qbL.getD 89 cL_law) (qnLL.getD 89 0) (qrTL.getD 89 none) (qstL.getD 89 false) := ⟨qin 763 (by decide +kernel) (by decide +kernel), qin 45 (by decide +kernel) (by decide +kernel), qin 762 (by decide +kernel) (by decide +kernel), qin 18 (by decide +kernel) (by decide +kernel)⟩
theorem qw90 : qWd (qyL.getD 90 yL_law) (qbL.getD 90 cL_law) (qnLL.getD 90 0) (qrTL.getD 90 none) (qstL.getD 90 false) := ⟨qin 759 (by decide +kernel) (by decide +kernel), qin 45 (by decide +kernel) (by decide +kernel), qin 758 (by decide +kernel) (by decide +kernel), qin 17 (by decide +kernel) (by decide +kernel)⟩
theorem qw91 : qWd (qyL.getD 91 yL_law) (qbL.getD 91 cL_law) (qnLL.getD 91 0) (qrTL.getD 91 none) (qstL.getD 91 false) := ⟨qin 748 (by decide +kernel) (by decide +kernel), qin 45 (by decide +kernel) (by decide +kernel), qin 747 (by decide +kernel) (by decide +kernel), qin 15 (by decide +kernel) (by decide +kernel)⟩
theorem qw92 : qWd (qyL.getD 92 yL_law) (qbL.getD 92 cL_law) (qnLL.getD 92 0) (qrTL.getD 92 none) (qstL.getD 92 false) := ⟨qin 740 (by decide +kernel) (by decide +kernel), qin 45 (by decide +kernel) (by decide +kernel), qin 738 (by decide +kernel) (by decide +kernel), qin 739 (by decide +kernel) (by decide +kernel)⟩
theorem qw93 : qWd (qyL.getD 93 yL_law) (qbL.getD 93 cL_law) (qnLL.getD 93 0) (qrTL.getD 93 none) (qstL.getD 93 false) := ⟨qin 767 (by decide +kernel) (by decide +kernel), qin 45 (by decide +kernel) (by decide +kernel), qin 765 (by decide +kernel) (by decide +kernel), qin 766 (by decide +kernel) (by decide +kernel)⟩
theorem qw94 : qWd (qyL.getD 94 yL_law) (qbL.getD 94 cL_law) (qnLL.getD 94 0) (qrTL.getD 94 none) (qstL.getD 94 false) := ⟨qin 771 (by decide +kernel) (by decide +kernel), qin 45 (by decide +kernel) (by decide +kernel), qin 769 (by decide +kernel) (by decide +kernel), qin 770 (by decide +kernel) (by decide +kernel)⟩
theorem qw95 : qWd (qyL.getD 95 yL_law) (qbL.getD 95 cL_law) (qnLL.getD 95 0) (qrTL.getD 95 none) (qstL.getD 95 false) := ⟨qin 779 (by decide +kernel) (by decide +kernel), qin 45 (by decide +kernel) (by decide +kernel), qin 777 (by decide +kernel) (by decide +kernel), qin 778 (by decide +kernel) (by decide +kernel)⟩
theorem qw96 : qWd (qyL.getD 96 yL_law) (qbL.getD 96 cL_law) (qnLL.getD 96 0) (qrTL.getD 96 none) (qstL.getD 96 false) := ⟨qin 787 (by decide +kernel) (by decide +kernel), qin 45 (by decide +kernel) (by decide +kernel), qin 786 (by decide +kernel) (by decide +kernel), qin 20 (by decide +kernel) (by decide +kernel)⟩
theorem qw97 : qWd (qyL.getD 97 yL_law) (qbL.getD 97 cL_law) (qnLL.getD 97 0) (qrTL.getD 97 none) (qstL.getD 97 false) := ⟨qin 795 (by decide +kernel) (by decide +kernel), qin 45 (by decide +kernel) (by decide +kernel), qin 794 (by decide +kernel) (by decide +kernel), qin 22 (by decide +kernel) (by decide +kernel)⟩
theorem qw98 : qWd (qyL.getD 98 yL_law) (qbL.getD 98 cL_law) (qnLL.getD 98 0) (qrTL.getD 98 none) (qstL.getD 98 false) := ⟨qin 791 (by decide +kernel) (by decide +kernel), qin 45 (by decide +kernel) (by decide +kernel), qin 790 (by decide +kernel) (by decide +kernel), qin 21 (by decide +kernel) (by decide +kernel)⟩
theorem qw99 : qWd (qyL.getD 99 yL_law) (qbL.getD 99 cL_law) (qnLL.getD 99 0) (qrTL.getD 99 none) (qstL.getD 99 false) := ⟨qin 783 (by decide +kernel) (by decide +kernel), qin 45 (by decide +kernel) (by decide +kernel), qin 781 (by decide +kernel) (by decide +kernel), qin 782 (by decide +kernel) (by decide +kernel)⟩
theorem qw100 : qWd (qyL.getD 100 yL_law) (qbL.getD 100 cL_law) (qnLL.getD 100 0) (qrTL.getD 100 none) (qstL.getD 100 false) := ⟨qin 811 (by decide +kernel) (by decide +kernel), qin 45 (by decide +kernel) (by decide +kernel), qin 810 (by decide +kernel) (by decide +kernel), qin 25 (by decide +kernel) (by decide +kernel)⟩
theorem qw101 : qWd (qyL.getD 101 yL_law) (qbL.getD 101 cL_law) (qnLL.getD 101 0) (qrTL.getD 101 none) (qstL.getD 101 false) := ⟨qin 823 (by decide +kernel) (by decide +kernel), qin 45 (by decide +kernel) (by decide +kernel), qin 822 (by decide +kernel) (by decide +kernel), qin 28 (by decide +kernel) (by decide +kernel)⟩
theorem qw102 : qWd (qyL.getD 102 yL_law) (qbL.getD 102 cL_law) (qnLL.getD 102 0) (qrTL.getD 102 none) (qstL.getD 102 false) := ⟨qin 819 (by decide +kernel) (by decide +kernel), qin 45 (by decide +kernel) (by decide +kernel), qin 818 (by decide +kernel) (by decide +kernel), qin 27 (by decide +kernel) (by decide +kernel)⟩
theorem qw103 : qWd (qyL.getD 103 yL_law) (qbL.getD 103 cL_law) (qnLL.getD 103 0) (qrTL.getD 103 none) (qstL.getD 103 false) := ⟨qin 815 (by decide +kernel) (by decide +kernel), qin 45 (by decide +kernel) (by decide +kernel), qin 814 (by decide +kernel) (by decide +kernel), qin 26 (by decide +kernel) (by decide +kernel)⟩
theorem qw104 : qWd (qyL.getD 104 yL_law) (qbL.getD 104 cL_law) (qnLL.getD 104 0) (qrTL.getD 104 none) (qstL.getD 104 false) := ⟨qin 807 (by decide +kernel) (by decide +kernel), qin 45 (by decide +kernel) (by decide +kernel), qin 806 (by decide +kernel) (by decide +kernel), qin 24 (by decide +kernel) (by decide +kernel)⟩
theorem qw105 : qWd (qyL.getD 105 yL_law) (qbL.getD 105 cL_law) (qnLL.getD 105 0) (qrTL.getD 105 none) (qstL.getD 105 false) := ⟨qin 803 (by decide +kernel) (by decide +kernel), qin 45 (by decide +kernel) (by decide +kernel), qin 801 (by decide +kernel) (by decide +kernel), qin 802 (by decide +kernel) (by decide +kernel)⟩
theorem qw106 : qWd (qyL.getD 106 yL_law) (qbL.getD 106 cL_law) (qnLL.getD 106 0) (qrTL.getD 106 none) (qstL.getD 106 false) := ⟨qin 835 (by decide +kernel) (by decide +kernel), qin 45 (by decide +kernel) (by decide +kernel), qin 834 (by decide +kernel) (by decide +kernel), qin 30 (by decide +kernel) (by decide +kernel)⟩
theorem qw107 : qWd (qyL.getD 107 yL_law) (qbL.getD 107 cL_law) (qnLL.getD 107 0) (qrTL.getD 107 none) (qstL.getD 107 false) := ⟨qin 831 (by decide +kernel) (by decide +kernel), qin 45 (by decide +kernel) (by decide +kernel), qin 830 (by decide +kernel) (by decide +kernel), qin 29 (by decide +kernel) (by decide +kernel)⟩
theorem qw108 : qWd (qyL.getD 108 yL_law) (qbL.getD 108 cL_law) (qnLL.getD 108 0) (qrTL.getD 108 none) (qstL.getD 108 false) := ⟨qin 827 (by decide +kernel) (by decide +kernel), qin 45 (by decide +kernel) (by decide +kernel), qin 825 (by decide +kernel) (by decide +kernel), qin 826 (by decide +kernel) (by decide +kernel)⟩
theorem qw109 : qWd (qyL.getD 109 yL_law) (qbL.getD 109 cL_law) (qnLL.getD 109 0) (qrTL.getD 109 none) (qstL.getD 109 false) := ⟨qin 839 (by decide +kernel) (by decide +kernel), qin 45 (by decide +kernel) (by decide +kernel), qin 837 (by decide +kernel) (by decide +kernel), qin 838 (by decide +kernel) (by decide +kernel)⟩
theorem qw110 : qWd (qyL.getD 110 yL_law) (qbL.getD 110 cL_law) (qnLL.getD 110 0) (qrTL.getD 110 none) (qstL.getD 110 false) := ⟨qin 843 (by decide +kernel) (by decide +kernel), qin 45 (by decide +kernel) (by decide +kernel), qin 841 (by decide +kernel) (by decide +kernel), qin 842 (by decide +kernel) (by decide +kernel)⟩
theorem qw111 : qWd (qyL.getD 111 yL_law) (qbL.getD 111 cL_law) (qnLL.getD 111 0) (qrTL.getD 111 none) (qstL.getD 111 false) := ⟨qin 855 (by decide +kernel) (by decide +kernel), qin 45 (by decide +kernel) (by decide +kernel), qin 854 (by decide +kernel) (by decide +kernel), qin 32 (by decide +kernel) (by decide +kernel)⟩
theorem qw112 : qWd (qyL.getD 112 yL_law) (qbL.getD 112 cL_law) (qnLL.getD 112 0) (qrTL.getD 112 none) (qstL.getD 112 false) := ⟨qin 851 (by decide +kernel) (by decide +kernel), qin 45 (by decide +kernel) (by decide +kernel), qin 850 (by decide +kernel) (by decide +kernel), qin 31 (by decide +kernel) (by decide +kernel)⟩
theorem qw113 : qWd (qyL.getD 113 yL_law) (qbL.getD 113 cL_law) (qnLL.getD 113 0) (qrTL.getD 113 none) (qstL.getD 113 false) := ⟨qin 847 (by decide +kernel) (by decide +kernel), qin 45 (by decide +kernel) (by decide +kernel), qin 845 (by decide +kernel) (by decide +kernel), qin 846 (by decide +kernel) (by decide +kernel)⟩
theorem qw114 : qWd (qyL.getD 114 yL_law) (qbL.getD 114 cL_law) (qnLL.getD 114 0) (qrTL.getD 114 none) (qstL.getD 114 false) := ⟨qin 868 (by decide +kernel) (by decide +kernel), qin 45 (by decide +kernel) (by decide +kernel), qin 867 (by decide +kernel) (by decide +kernel), qin 34 (by decide +kernel) (by decide +kernel)⟩
theorem qw115 : qWd (qyL.getD 115 yL_law) (qbL.getD 115 cL_law) (qnLL.getD 115 0) (qrTL.getD 115 none) (qstL.getD 115 false) := ⟨qin 863 (by decide +kernel) (by decide +kernel), qin 45 (by decide +kernel) (by decide +kernel), qin 862 (by decide +kernel) (by decide +kernel), qin 33 (by decide +kernel) (by decide +kernel)⟩
theorem qw116 : qWd (qyL.getD 116 yL_law) (qbL.getD 116 cL_law) (qnLL.getD 116 0) (qrTL.getD 116 none) (qstL.getD 116 false) := ⟨qin 859 (by decide +kernel) (by decide +kernel), qin 45 (by decide +kernel) (by decide +kernel), qin 857 (by decide +kernel) (by decide +kernel), qin 858 (by decide +kernel) (by decide +kernel)⟩
theorem qw117 : qWd (qyL.getD 117 yL_law) (qbL.getD 117 cL_law) (qnLL.getD 117 0) (qrTL.getD 117 none) (qstL.getD 117 false) := ⟨qin 880 (by decide +kernel) (by decide +kernel), qin 45 (by decide +kernel) (by decide +kernel), qin 879 (by decide +kernel) (by decide +kernel), qin 36 (by decide +kernel) (by decide +kernel)⟩
theorem qw118 : qWd (qyL.getD 118 yL_law) (qbL.getD 118 cL_law) (qnLL.getD 118 0) (qrTL.getD 118 none) (qstL.getD 118 false) := ⟨qin 891 (by decide +kernel) (by decide +kernel), qin 45 (by decide +kernel) (by decide +kernel), qin 890 (by decide +kernel) (by decide +kernel), qin 37 (by decide +kernel) (by decide +kernel)⟩
theorem qw119 : qWd (qyL.getD 119 yL_law) (qbL.getD 119 cL_law) (qnLL.getD 119 0) (qrTL.getD 119 none) (qstL.getD 119 false) := ⟨qin 876 (by decide +kernel) (by decide +kernel), qin 45 (by decide +kernel) (by decide +kernel), qin 875 (by decide +kernel) (by decide +kernel), qin 35 (by decide +kernel) (by decide +kernel)⟩
theorem qw120 : qWd (qyL.getD 120 yL_law) (qbL.getD 120 cL_law) (qnLL.getD 120 0) (qrTL.getD 120 none) (qstL.getD 120 false) := ⟨qin 872 (by decide +kernel) (by decide +kernel), qin 45 (by decide +kernel) (by decide +kernel), qin 870 (by decide +kernel) (by decide +kernel), qin 871 (by decide +kernel) (by decide +kernel)⟩
theorem qw121 : qWd (qyL.getD 121 yL_law) (qbL.getD 121 cL_law) (qnLL.getD 121 0) (qrTL.getD 121 none) (qstL.getD 121 false) := ⟨qin 895 (by decide +kernel) (by decide +kernel), qin 45 (by decide +kernel) (by decide +kernel), qin 893 (by decide +kernel) (by decide +kernel), qin 894 (by decide +kernel) (by decide +kernel)⟩
theorem qw122 : qWd (qyL.getD 122 yL_law) (qbL.getD 122 cL_law) (qnLL.getD 122 0) (qrTL.getD 122 none) (qstL.getD 122 false) := ⟨qin 899 (by decide +kernel) (by decide +kernel), qin 45 (by decide +kernel) (by decide +kernel), qin 897 (by decide +kernel) (by decide +kernel), qin 898 (by decide +kernel) (by decide +kernel)⟩
theorem qw123 : qWd (qyL.getD 123 yL_law) (qbL.getD 123 cL_law) (qnLL.getD 123 0) (qrTL.getD 123 none) (qstL.getD 123 false) := ⟨qin 907 (by decide +kernel) (by decide +kernel), qin 45 (by decide +kernel) (by decide +kernel), qin 906 (by decide +kernel) (by decide +kernel), qin 38 (by decide +kernel) (by decide +kernel)⟩
theorem qw124 : qWd (qyL.getD 124 yL_law) (qbL.getD 124 cL_law) (qnLL.getD 124 0) (qrTL.getD 124 none) (qstL.getD 124 false) := ⟨qin 903 (by decide +kernel) (by decide +kernel), qin 45 (by decide +kernel) (by decide +kernel), qin 901 (by decide +kernel) (by decide +kernel), qin 902 (by decide +kernel) (by decide +kernel)⟩
theorem qw125 : qWd (qyL.getD 125 yL_law) (qbL.getD 125 cL_law) (qnLL.getD 125 0) (qrTL.getD 125 none) (qstL.getD 125 false) := ⟨qin 916 (by decide +kernel) (by decide +kernel), qin 45 (by decide +kernel) (by decide +kernel), qin 915 (by decide +kernel) (by decide +kernel), qin 39 (by decide +kernel) (by decide +kernel)⟩
theorem qw126 : qWd (qyL.getD 126 yL_law) (qbL.getD 126 cL_law) (qnLL.getD 126 0) (qrTL.getD 126 none) (qstL.getD 126 false) := ⟨qin 911 (by decide +kernel) (by decide +kernel), qin 45 (by decide +kernel) (by decide +kernel), qin 909 (by decide +kernel) (by decide +kernel), qin 910 (by decide +kernel) (by decide +kernel)⟩
theorem qw127 : qWd (qyL.getD 127 yL_law) (qbL.getD 127 cL_law) (qnLL.getD 127 0) (qrTL.getD 127 none) (qstL.getD 127 false) := ⟨qin 217 (by decide +kernel) (by decide +kernel), qin 46 (by decide +kernel) (by decide +kernel), qin 215 (by decide +kernel) (by decide +kernel), qin 216 (by decide +kernel) (by decide +kernel)⟩
theorem qw128 : qWd (qyL.getD 128 yL_law) (qbL.getD 128 cL_law) (qnLL.getD 128 0) (qrTL.getD 128 none) (qstL.getD 128 false) := ⟨qin 227 (by decide +kernel) (by decide +kernel), qin 46 (by decide +kernel) (by decide +kernel), qin 225 (by decide +kernel) (by decide +kernel), qin 226 (by decide +kernel) (by decide +kernel)⟩
theorem qw129 : qWd (qyL.getD 129 yL_law) (qbL.getD 129 cL_law) (qnLL.getD 129 0) (qrTL.getD 129 none) (qstL.getD 129 false) := ⟨qin 223 (by decide +kernel) (by decide +kernel), qin 46 (by decide +kernel) (by decide +kernel), qin 221 (by decide +kernel) (by decide +kernel), qin 222 (by decide +kernel) (by decide +kernel)⟩
theorem qw130 : qWd (qyL.getD 130 yL_law) (qbL.getD 130 cL_law) (qnLL.getD 130 0) (qrTL.getD 130 none) (qstL.getD 130 false) := ⟨qin 233 (by decide +kernel) (by decide +kernel), qin 47 (by decide +kernel) (by decide +kernel), qin 232 (by decide +kernel) (by decide +kernel)⟩
theorem qw131 : qWd (qyL.getD 131 yL_law) (qbL.getD 131 cL_law) (qnLL.getD 131 0) (qrTL.getD 131 none) (qstL.getD 131 false) := ⟨qin 242 (by decide +kernel) (by decide +kernel), qin 47 (by decide +kernel) (by decide +kernel), qin 241 (by decide +kernel) (by decide +kernel)⟩
theorem qw132 : qWd (qyL.getD 132 yL_law) (qbL.getD 132 cL_law) (qnLL.getD 132 0) (qrTL.getD 132 none) (qstL.getD 132 false) := ⟨qin 230 (by decide +kernel) (by decide +kernel), qin 47 (by decide +kernel) (by decide +kernel), qin 229 (by decide +kernel) (by decide +kernel)⟩
theorem qw133 : qWd (qyL.getD 133 yL_law) (qbL.getD 133 cL_law) (qnLL.getD 133 0) (qrTL.getD 133 none) (qstL.getD 133 false) := ⟨qin 213 (by decide +kernel) (by decide +kernel), qin 46 (by decide +kernel) (by decide +kernel), qin 211 (by decide +kernel) (by decide +kernel), qin 212 (by decide +kernel) (by decide +kernel)⟩
theorem qw134 : qWd (qyL.getD 134 yL_law) (qbL.getD 134 cL_law) (qnLL.getD 134 0) (qrTL.getD 134 none) (qstL.getD 134 false) := ⟨qin 209 (by decide +kernel) (by decide +kernel), qin 46 (by decide +kernel) (by decide +kernel), qin 207 (by decide +kernel) (by decide +kernel), qin 208 (by decide +kernel) (by decide +kernel)⟩
theorem qw135 : qWd (qyL.getD 135 yL_law) (qbL.getD 135 cL_law) (qnLL.getD 135 0) (qrTL.getD 135 none) (qstL.getD 135 false) := ⟨qin 528 (by decide +kernel) (by decide +kernel), qin 53 (by decide +kernel) (by decide +kernel), qin 527 (by decide +kernel) (by decide +kernel)⟩
theorem qw136 : qWd (qyL.getD 136 yL_law) (qbL.getD 136 cL_law) (qnLL.getD 136 0) (qrTL.getD 136 none) (qstL.getD 136 false) := ⟨qin 236 (by decide +kernel) (by decide +kernel), qin 48 (by decide +kernel) (by decide +kernel), qin 235 (by decide +kernel) (by decide +kernel)⟩
theorem qw137 : qWd (qyL.getD 137 yL_law) (qbL.getD 137 cL_law) (qnLL.getD 137 0) (qrTL.getD 137 none) (qstL.getD 137 false) := ⟨qin 239 (by decide +kernel) (by decide +kernel), qin 48 (by decide +kernel) (by decide +kernel), qin 238 (by decide +kernel) (by decide +kernel)⟩
end
section
/-! THE PLAIN MACHINE: a method's code in its plain form over a heap of known shape (31 cells, addresses by number), its weakest precondition, and what it says of the machine itself -/
abbrev qH : Type := (Nat → Nat → Int32) × (Nat → Nat → Int64)
abbrev qL : Type := List (Option Value)
abbrev qK : Type := Option Value → qH → Prop
/-- depth, method, answer's type, the script, what is wanted at the end -/
abbrev qX : Type := Nat × Nat × Option FieldType × (Nat × (Nat → Int32)) × qK
def qI (h : qH) (r k : Nat) (v : Int32) : qH := (fun a b => if a = r ∧ b = k then v else h.1 a b, h.2)
def qJ (h : qH) (r k : Nat) (v : Int64) : qH := (h.1, fun a b => if a = r ∧ b = k then v else h.2 a b)
/-- a cell's kind: (0, class), (1, length) ints, (2, length) bytes; 97 the text, 98 its bytes, 99 the script -/
def qkdL : List (Nat × Nat) := [(0,3),(0,1),(1,22),(0,0),(1,16),(0,2),(1,4),(1,6),(0,2),(1,4),(1,6),(0,2),(1,4),(1,6),(1,3),(0,4),(1,4),(1,4),(1,4),(1,4),(1,4),(1,6),(1,6),(1,6),(2,22),(1,4),(1,4),(1,4),(1,6),(1,6),(1,6)]
def qkd (r : Nat) : Nat × Nat := qkdL.getD r (if r = 97 then (5, 0) else if r = 98 then (6, 5) else if r = 99 then (4, 0) else (9, 0))
/-- fields: 0 int, 1 long, 2 reference, 3 boolean -/
def qfkL : List (List Nat) := [[0,0,0,0,0,0,2],[2,0],[0,0,0,0,0,2,2,0],[2,2,2,2,2,2,3,0,0],[0,0,2,2,2,2,2,0,0,0,0,0,2,2,2,0,0,2,3,0,2,1,3,0,0,0,0,0,0,2,2,2,2,2,1]]
def qfk (c k : Nat) : Nat := (qfkL.getD c []).getD k 9
def qnf (c : Nat) : Nat := (qfkL.getD c []).length
def qrfL : List (Nat × List Nat) := [(0,[1,3,5,8,11,14]),(1,[2]),(3,[0,0,0,0,0,0,4]),(5,[0,0,0,0,0,6,7]),(8,[0,0,0,0,0,9,10]),(11,[0,0,0,0,0,12,13]),(15,[0,0,16,17,18,19,20,0,0,0,0,0,21,22,23,0,0,24,0,0,25,0,0,0,0,0,0,0,0,26,27,28,29,30,0])]
def qrfF : List (Nat × List Nat) → Nat → List Nat
  | [], _ => []
  | (a, l) :: t, r => bif a == r then l else qrfF t r
def qrf (r k : Nat) : Nat := (qrfF qrfL r).getD k 0
def qfv (h : qH) (r c k : Nat) : Value := match qfk c k with
  | 1 => .long (h.2 r k)
  | 2 => .ref (qrf r k)
  | _ => .int (h.1 r k)
def qstr : List Int32 := [109, 107, 99, 110, 113]
def qnth {α : Type} : List α → Nat → Option α
  | [], _ => none
  | a :: _, 0 => some a
  | _ :: l, n + 1 => qnth l n
/-! ## the shapes that an instruction wants -/
def eI (st : List Value) (f : Int32 → List Value → Prop) : Prop := match st with
  | .int x :: r => f x r
  | _ => False
def eII (st : List Value) (f : Int32 → Int32 → List Value → Prop) : Prop := match st with
  | .int y :: .int x :: r => f y x r
  | _ => False
def eL (st : List Value) (f : Int64 → List Value → Prop) : Prop := match st with
  | .long x :: r => f x r
  | _ => False
def eLL (st : List Value) (f : Int64 → Int64 → List Value → Prop) : Prop := match st with
  | .long y :: .long x :: r => f y x r
  | _ => False
def eR (st : List Value) (f : Nat → List Value → Prop) : Prop := match st with
  | .ref x :: r => f x r
  | _ => False
def eIR (st : List Value) (f : Int32 → Nat → List Value → Prop) : Prop := match st with
  | .int i :: .ref x :: r => f i x r
  | _ => False
def eIIR (st : List Value) (f : Int32 → Int32 → Nat → List Value → Prop) : Prop := match st with
  | .int v :: .int i :: .ref x :: r => f v i x r
  | _ => False
def eVR (st : List Value) (f : Value → Nat → List Value → Prop) : Prop := match st with
  | v :: .ref x :: r => f v x r
  | _ => False
def eV (st : List Value) (f : Value → List Value → Prop) : Prop := match st with
  | v :: r => bif v.category == 1 then f v r else False
  | _ => False
def eVV (st : List Value) (f : Value → Value → List Value → Prop) : Prop := match st with
  | v :: w :: r => bif v.category == 1 && w.category == 1 then f v w r else False
  | _ => False
def eN (st : List Value) (f : Prop) : Prop := match st with
  | [] => f
  | _ => False
def eo (b : Bool) (f : Prop) : Prop := match b with
  | true => f
  | false => False
def lI (ls : qL) (k : Nat) (f : Int32 → Prop) : Prop := match ls.getD k none with
  | some (.int x) => f x
  | _ => False
def lL (ls : qL) (k : Nat) (f : Int64 → Prop) : Prop := match ls.getD k none with
  | some (.long x) => f x
  | _ => False
def lR (ls : qL) (k : Nat) (f : Nat → Prop) : Prop := match ls.getD k none with
  | some (.ref x) => f x
  | _ => False
/-- no long ends in the place that is written -/
def qso (ls : qL) : Nat → Bool
  | 0 => true
  | k + 1 => match ls.getD k none with
    | some v => v.category == 1
    | none => true
def qsw (P : Nat → Prop) (x : Int32) : List (Int × Int) → Nat → Prop
  | [], d => P d
  | (k, t) :: l, d => (x = Int32.ofInt k → P t.toNat) ∧ (¬ x = Int32.ofInt k → qsw P x l d)
def qgf (h : qH) (a c k : Nat) (P : Value → Prop) : Prop :=
  match qkd a, Nat.blt k (qnf c) with
  | (0, c'), true => eo (c' == c) (P (qfv h a c k))
  | (5, _), _ => eo (c == 5 && Nat.blt k 2) (match k with | 0 => P (.ref 98) | _ => P (.int 0))
  | _, _ => False
def qpf (h : qH) (a c k : Nat) (v : Value) (P : qH → Prop) : Prop :=
  match qkd a, Nat.blt k (qnf c) with
  | (0, c'), true => eo (c' == c) (match qfk c k, v with
    | 0, .int x => P (qI h a k x)
    | 1, .long x => P (qJ h a k x)
    | 3, .int x => (x = 0 ∨ x = 1) ∧ P (qI h a k x)
    | _, _ => False)
  | _, _ => False
def qial (h : qH) (sc : Nat × (Nat → Int32)) (a : Nat) (i : Int32) (P : Int32 → Prop) : Prop := match qkd a with
  | (1, n) => vp_in i n ∧ P (h.1 a i.toNatClampNeg)
  | (4, _) => vp_in i (sc.1 - 1) ∧ P (sc.2 i.toNatClampNeg)
  | _ => False
def qbal (h : qH) (a : Nat) (i : Int32) (P : Int32 → Prop) : Prop := match qkd a with
  | (2, n) => vp_in i n ∧ P (h.1 a i.toNatClampNeg)
  | (6, n) => vp_in i n ∧ P (qstr.getD i.toNatClampNeg 0)
  | _ => False
def qias (h : qH) (a : Nat) (i v : Int32) (P : qH → Prop) : Prop := match qkd a with
  | (1, n) => vp_in i n ∧ P (qI h a i.toNatClampNeg v)
  | _ => False
def qbas (h : qH) (a : Nat) (i v : Int32) (P : qH → Prop) : Prop := match qkd a with
  | (2, n) => vp_in i n ∧ P (qI h a i.toNatClampNeg (vp_nar .byte v))
  | _ => False
def qlen (sc : Nat × (Nat → Int32)) (a : Nat) (P : Int32 → Prop) : Prop := match qkd a with
  | (1, n) => P (Int32.ofNat n)
  | (2, n) => P (Int32.ofNat n)
  | (6, n) => P (Int32.ofNat n)
  | (4, _) => sc.1 ≠ 0 ∧ P (Int32.ofNat (sc.1 - 1))
  | _ => False
def qrv (As : List Value) (c : Nat) : Bool := match As with
  | .ref b :: _ => match qkd b with
    | (0, c') => c' == c
    | (5, _) => c == 5
    | _ => false
  | _ => false
/-! ## the code's own form, held against the decoded rows -/
def qpcs (R : List (Nat × Instr × Nat)) : List Nat := R.map (fun q => q.1)
def qtg (pcs : List Nat) (pc : Nat) (off t : Int) : Bool := match pcs[t.toNat]? with
  | some g => decide ((pc : Int) + off = (g : Int))
  | none => false
def qtb (pcs : List Nat) (pc : Nat) : Int → List Int → List (Int × Int) → Bool
  | _, [], [] => true
  | lo, o :: os, (k, t) :: ps => decide (lo = k) && (decide ((Int32.ofInt k).toInt = k) && (qtg pcs pc o t && qtb pcs pc (lo + 1) os ps))
  | _, _, _ => false
def qlb (pcs : List Nat) (pc : Nat) : List (Int × Int) → List (Int × Int) → Bool
  | [], [] => true
  | (a, o) :: os, (k, t) :: ps => decide (a = k) && (decide ((Int32.ofInt k).toInt = k) && (qtg pcs pc o t && qlb pcs pc os ps))
  | _, _ => false
def qone (a : Instr) : Bool := match a with
  | .iadd | .isub | .imul | .idiv | .irem | .iand | .ior | .ixor | .ishl | .ishr | .iushr | .ladd | .lmul | .land | .ldiv | .lrem | .lcmp | .i2l | .l2i | .i2b | .i2c | .dup | .dup2 | .pop | .iaload | .baload | .iastore | .bastore | .arraylength | .ireturn | .lreturn | .return_ => true
  | _ => false
def qmatch (own : Nat) (pcs : List Nat) (pc len : Nat) (real a : Instr) : Bool := match a with
  | .aload k => match real with
    | .aload_n f => f.val == k && len == 1
    | .aload k' => k' == k && len == 2
    | _ => false
  | .iload k => match real with
    | .iload_n f => f.val == k && len == 1
    | .iload k' => k' == k && len == 2
    | _ => false
  | .lload k => match real with
    | .lload_n f => f.val == k && len == 1
    | .lload k' => k' == k && len == 2
    | _ => false
  | .astore k => match real with
    | .astore_n f => f.val == k && len == 1
    | .astore k' => k' == k && len == 2
    | _ => false
  | .istore k => match real with
    | .istore_n f => f.val == k && len == 1
    | .istore k' => k' == k && len == 2
    | _ => false
  | .lstore k => match real with
    | .lstore_n f => f.val == k && len == 1
    | .lstore k' => k' == k && len == 2
    | _ => false
  | .iinc k v => match real with
    | .iinc k' v' => k' == k && (decide (v' = v) && len == 3)
    | _ => false
  | .iconst v => match real with
    | .iconst w => decide (w = v) && len == 1
    | .bipush w => decide ((Int8.ofInt w).toInt32 = Int32.ofInt v) && len == 2
    | .sipush w => decide ((Int16.ofInt w).toInt32 = Int32.ofInt v) && len == 3
    | .ldc k => qIT.elem (own, k, v) && len == 2
    | .ldc_w k => qIT.elem (own, k, v) && len == 3
    | _ => false
  | .jsr v => match real with
    | .lconst n => decide (Int64.ofNat n = Int64.ofInt v) && len == 1
    | .ldc2_w k => qJT.elem (own, k, v) && len == 3
    | _ => false
  | .ldc _ => match real with
    | .ldc k => own == 2 && (k == 23 && len == 2)
    | _ => false
  | .getfield f => match real with
    | .getfield k => (qFT.elem (own, k, f) || qNT.elem (own, k, f)) && len == 3
    | _ => false
  | .putfield f => match real with
    | .putfield k => (qFT.elem (own, k, f) || qNT.elem (own, k, f)) && len == 3
    | _ => false
  | .getstatic _ => match real with
    | .getstatic k => qST.elem (own, k) && len == 3
    | _ => false
  | .goto t => match real with
    | .goto o => qtg pcs pc o t && len == 3
    | _ => false
  | .ifCond c t => match real with
    | .ifCond c' o => decide (c' = c) && (qtg pcs pc o t && len == 3)
    | _ => false
  | .if_icmp c t => match real with
    | .if_icmp c' o => decide (c' = c) && (qtg pcs pc o t && len == 3)
    | _ => false
  | .lookupswitch d ps => match real with
    | .tableswitch d' lo hi offs => qtg pcs pc d' d && (decide (hi + 1 = lo + (offs.toList.length : Int)) && qtb pcs pc lo offs.toList ps.toList)
    | .lookupswitch d' ps' => qtg pcs pc d' d && ((ps'.toList.zip (ps'.toList.drop 1)).all (fun (a, next) => a.1 < next.1) && qlb pcs pc ps'.toList ps.toList)
    | _ => false
  | .invokestatic f => match real with
    | .invokestatic k => qMT.elem (own, k, f / 16) && (Nat.blt (f / 16) 136 && (qstL.getD (f / 16) false == true && (qarL.getD (f / 16) 0 == f % 16 && len == 3)))
    | _ => false
  | .invokevirtual f => match real with
    | .invokevirtual k => qMT.elem (own, k, f / 256) && (Nat.blt (f / 256) 136 && (qstL.getD (f / 256) true == false && (qarL.getD (f / 256) 0 + 1 == f / 16 % 16 && (decide ((qyL.getD (f / 256) yL_law).cls = (vwCl.getD (f % 16) (RJ0, TX0, 0)).1) && len == 3))))
    | _ => false
  | .fadd => match real with
    | .invokestatic k => qMT.elem (own, k, 136) && len == 3
    | _ => false
  | .fsub => match real with
    | .invokestatic k => qMT.elem (own, k, 137) && len == 3
    | _ => false
  | .nop => true
  | a => qone a && (decide (real = a) && len == 1)
def qend (a : Instr) : Bool := match a with
  | .ireturn | .lreturn | .return_ | .goto _ | .nop => true
  | _ => false
def qchk (b : ByteArray) (own : Nat) (pcs : List Nat) : List (Nat × Instr × Nat) → List Instr → Bool
  | [], [] => true
  | (pc, ins, len) :: R, a :: C => decide (decode b pc = .ok (ins, len)) && ((match R with
      | [] => qend a
      | q :: _ => q.1 == pc + len) && (qmatch own pcs pc len ins a && qchk b own pcs R C))
  | _, _ => false
end
section
/-! what the plain machine says of the machine itself -/
def qy (j : Nat) : MethodName := qyL.getD j yL_law
def qb (j : Nat) : ByteArray := qbL.getD j cL_law
def qnl (j : Nat) : Nat := qnLL.getD j 0
def qrt (j : Nat) : Option FieldType := qrTL.getD j none
def qow (j : Nat) : String := qOwn (qownL.getD j 0)
def qpc (j i : Nat) : Nat := (qpcs (qRL.getD j [])).getD i 0
def qcv (ad : Nat → Nat) : Value → Value
  | .ref a => .ref (ad a)
  | v => v
def qce (cI cB : ClassId) (ad : Nat → Nat) (h : qH) (r : Nat) : va_E := match qkd r with
  | (0, c) => .inr (c, (List.range (qnf c)).map (fun k => qcv ad (qfv h r c k)))
  | (1, n) => .inl (cI, n, .inl (h.1 r))
  | (_, n) => .inl (cB, n, .inl (h.1 r))
def qW (cI cB : ClassId) (ad : Nat → Nat) (h : qH) : va_W := (List.range 31).map (fun r => (ad r, qce cI cB ad h r))
def qnest (q : Nat × Nat × Nat) : Cond := Cond.fieldLinkNest (qOwn q.1) q.2.1 (qTf (q.2.2 / 64) (q.2.2 % 64)).1 (qTf (q.2.2 / 64) (q.2.2 % 64)).2.1 (qTf (q.2.2 / 64) (q.2.2 % 64)).2.2.1 "UnsaidHorse"
/-- what is never written: the text and its bytes, a static of String's, the nest mates' links -/
def qRO (ad : Nat → Nat) (A : Nat → Prop) (U : State) (H : Heap) : Prop :=
  vk_S 1 [5] [qstr] (fun _ => ad 97) (fun _ => ad 98) A U H ∧ va_Z "java/lang/String" "COMPACT_STRINGS" "Z" (.int 1) A U H ∧ vk_R RX2 23 "mkcnq" (ad 97) U ∧ ∀ q ∈ qNT, va_Nw (qnest q) U
def qRet (rt : Option FieldType) (cc : ByteArray) (pc : Nat) (v : Option Value) : Prop := match v with
  | some (.int x) => decode cc pc = .ok (.ireturn, 1) ∧ (rt = some .int ∨ (rt = some .boolean ∧ (x = 0 ∨ x = 1)) ∨ (rt = some .byte ∧ x = 0))
  | some (.long _) => decode cc pc = .ok (.lreturn, 1) ∧ rt = some .long
  | none => decode cc pc = .ok (.return_, 1) ∧ rt = none
  | _ => False
def qMach (X : qX) (p : Program) (l : Launch) (e : Env) (R : Room) (s : State) (m : MethodId) (args : Array Value) (below : List Frame) (meth : Method) (c : Code) (D : va_G) (cI cB : ClassId) (ad : Nat → Nat) (A : Nat → Prop) (k n : Nat) (Q : State → Prop) : Prop :=
  p.tables.exec = Jvm.exec ∧ c.code = qb X.2.1 ∧ c.maxLocals = qnl X.2.1 ∧ s.vm.findClass (qow X.2.1) = some m.cls ∧ (∀ w ∈ qU, w.before args s = true) ∧ va_K D vwCl [(cI, .int), (cB, .byte)] s ∧ (∀ q, s.heap.size ≤ q → A q) ∧ qRO ad A s s.heap ∧ (X.1 ≤ R.frames ∧ 300 * X.1 ≤ R.locals ∧ k ≤ R.cells ∧ n ≤ R.slots) ∧ (X.2.2.2.1.1 = 0 ∨ (va_X (ad 99) (X.2.2.2.1.1 - 1) X.2.2.2.1.2 s s.heap ∧ ad 99 < s.heap.size ∧ ¬ A (ad 99))) ∧
  ∀ (v : Option Value) (h' : qH) (H' : Heap) (locs' : List Loc) (lsM : Array Slot) (pc : Nat), X.2.2.2.2 v h' → qRet X.2.2.1 (qb X.2.1) pc v → va_P D vwCl (qW cI cB ad h') H' → va_D A (qW cI cB ad h') → va_S A s.heap H' locs' → W p l e R s m args below meth c H' locs' k n Q (F0 m pc lsM v.toList)
def qpr (ad : Nat → Nat) (ls : qL) : List (Nat × Value) := (List.range ls.length).filterMap (fun i => (ls.getD i none).map (fun v => (i, qcv ad v)))
/-- the machine stands in method X's code at the byte pc, its locals, stack and heap in these words: it comes to its end -/
def qAtP (X : qX) (pc : Nat) (ls : qL) (st : List Value) (h : qH) : Prop :=
  ∀ (p : Program) (l : Launch) (e : Env) (R : Room) (s : State) (m : MethodId) (args : Array Value) (below : List Frame) (meth : Method) (c : Code) (D : va_G) (cI cB : ClassId) (ad : Nat → Nat) (A : Nat → Prop) (H : Heap) (locs : List Loc) (k n : Nat) (Q : State → Prop),
    qMach X p l e R s m args below meth c D cI cB ad A k n Q → va_P D vwCl (qW cI cB ad h) H → va_D A (qW cI cB ad h) → va_S A s.heap H locs →
    ∀ lsM : Array Slot, (ls.length ≤ qnl X.2.1 ∧ lv_has lsM (qnl X.2.1) (qpr ad ls)) → W p l e R s m args below meth c H locs k n Q (F0 m pc lsM (st.map (qcv ad)))
def qAt (X : qX) (i : Nat) (ls : qL) (st : List Value) (h : qH) : Prop := qAtP X (qpc X.2.1 i) ls st h
def qpl (v : Option Value) : Prop := match v with
  | some (.ref _) => False
  | _ => True
def qrm (d : Nat) : Room := { frames := d, cells := 0, slots := 0, locals := 300 * d }
/-- a method's contract: from the heap h, with these arguments, it returns, and K holds of its answer and the heap then -/
def qSem (d j : Nat) (As : List Value) (h : qH) (K : qK) : Prop :=
  ∀ (l : Launch) (D : va_G) (cI cB : ClassId) (ad : Nat → Nat) (sz : Nat),
    Met l (qy j) (Cond.code (qy j) (qb j) (qnl j) (qrt j) :: qU) (qrm d)
      (va_Pc (As.map (qcv ad)) (fun U => U.heap.size = sz ∧ va_P D vwCl (qW cI cB ad h) U.heap ∧ va_K D vwCl [(cI, .int), (cB, .byte)] U ∧ va_D (fun _ => True) (qW cI cB ad h) ∧ qRO ad (va_A (qW cI cB ad h) sz) U U.heap))
      (fun _ st oc t => (∃ (v : Option Value) (h' : qH), oc = .returned v ∧ qpl v ∧ K v h' ∧ va_P D vwCl (qW cI cB ad h') t.heap) ∧ va_F (va_A (qW cI cB ad h) sz) st t)
      0 0 (va_A (qW cI cB ad h) sz)
def qCall (d j : Nat) (As : List Value) (h : qH) (K : qK) : Prop := ∃ e, e < d ∧ qSem e j As h K
/-- one step -/
def qstep (d : Nat) (rt : Option FieldType) (sc : Nat × (Nat → Int32)) (K : qK) (nx : Nat → qL → List Value → qH → Prop) (a : Instr) (i : Nat) (ls : qL) (st : List Value) (h : qH) : Prop := match a with
  | .aload k => lR ls k (fun x => nx (i + 1) ls (.ref x :: st) h)
  | .iload k => lI ls k (fun x => nx (i + 1) ls (.int x :: st) h)
  | .lload k => lL ls k (fun x => nx (i + 1) ls (.long x :: st) h)
  | .astore k => eR st (fun x r => eo (Nat.blt k ls.length && qso ls k) (nx (i + 1) (ls.set k (some (.ref x))) r h))
  | .istore k => eI st (fun x r => eo (Nat.blt k ls.length && qso ls k) (nx (i + 1) (ls.set k (some (.int x))) r h))
  | .lstore k => eL st (fun x r => eo (Nat.blt (k + 1) ls.length && qso ls k) (nx (i + 1) ((ls.set k (some (.long x))).set (k + 1) none) r h))
  | .iinc k v => lI ls k (fun x => eo (Nat.blt k ls.length && qso ls k) (nx (i + 1) (ls.set k (some (.int (x + Int32.ofInt v)))) st h))
  | .iconst v => nx (i + 1) ls (.int (Int32.ofInt v) :: st) h
  | .jsr v => nx (i + 1) ls (.long (Int64.ofInt v) :: st) h
  | .ldc _ => nx (i + 1) ls (.ref 97 :: st) h
  | .iadd => eII st (fun y x r => nx (i + 1) ls (.int (x + y) :: r) h)
  | .isub => eII st (fun y x r => nx (i + 1) ls (.int (x - y) :: r) h)
  | .imul => eII st (fun y x r => nx (i + 1) ls (.int (x * y) :: r) h)
  | .idiv => eII st (fun y x r => (¬ y = 0) ∧ nx (i + 1) ls (.int (x / y) :: r) h)
  | .irem => eII st (fun y x r => (¬ y = 0) ∧ nx (i + 1) ls (.int (x - x / y * y) :: r) h)
  | .iand => eII st (fun y x r => nx (i + 1) ls (.int (x &&& y) :: r) h)
  | .ior => eII st (fun y x r => nx (i + 1) ls (.int (x ||| y) :: r) h)
  | .ixor => eII st (fun y x r => nx (i + 1) ls (.int (x ^^^ y) :: r) h)
  | .ishl => eII st (fun y x r => nx (i + 1) ls (.int (x <<< (y &&& 31)) :: r) h)
  | .ishr => eII st (fun y x r => nx (i + 1) ls (.int (x >>> (y &&& 31)) :: r) h)
  | .iushr => eII st (fun y x r => nx (i + 1) ls (.int ((x.toUInt32 >>> (y.toUInt32 &&& Int32.toUInt32 31)).toInt32) :: r) h)
  | .ladd => eLL st (fun y x r => nx (i + 1) ls (.long (x + y) :: r) h)
  | .lmul => eLL st (fun y x r => nx (i + 1) ls (.long (x * y) :: r) h)
  | .land => eLL st (fun y x r => nx (i + 1) ls (.long (x &&& y) :: r) h)
  | .ldiv => eLL st (fun y x r => (¬ y = 0) ∧ nx (i + 1) ls (.long (x / y) :: r) h)
  | .lrem => eLL st (fun y x r => (¬ y = 0) ∧ nx (i + 1) ls (.long (x - x / y * y) :: r) h)
  | .lcmp => eLL st (fun y x r => nx (i + 1) ls (.int (lg_cmp x y) :: r) h)
  | .i2l => eI st (fun x r => nx (i + 1) ls (.long x.toInt64 :: r) h)
  | .l2i => eL st (fun x r => nx (i + 1) ls (.int x.toInt32 :: r) h)
  | .i2b => eI st (fun x r => nx (i + 1) ls (.int x.toInt8.toInt32 :: r) h)
  | .i2c => eI st (fun x r => nx (i + 1) ls (.int (x.toUInt32 % 65536).toInt32 :: r) h)
  | .dup => eV st (fun v r => nx (i + 1) ls (v :: v :: r) h)
  | .dup2 => eVV st (fun v w r => nx (i + 1) ls (v :: w :: v :: w :: r) h)
  | .pop => eV st (fun _ r => nx (i + 1) ls r h)
  | .fadd => eII st (fun y x r => eo (Nat.blt 0 d && Nat.ble (r.map Value.category).sum 8) (nx (i + 1) ls (.int (if x < y then y else x) :: r) h))
  | .fsub => eII st (fun y x r => eo (Nat.blt 0 d && Nat.ble (r.map Value.category).sum 8) (nx (i + 1) ls (.int (if y < x then y else x) :: r) h))
  | .goto t => nx t.toNat ls st h
  | .ifCond c t => eI st (fun x r => match c with
    | .eq => (x = 0 → nx t.toNat ls r h) ∧ (¬ x = 0 → nx (i + 1) ls r h)
    | .ne => (x = 0 → nx (i + 1) ls r h) ∧ (¬ x = 0 → nx t.toNat ls r h)
    | .lt => (x < 0 → nx t.toNat ls r h) ∧ (¬ x < 0 → nx (i + 1) ls r h)
    | .ge => (0 ≤ x → nx t.toNat ls r h) ∧ (¬ 0 ≤ x → nx (i + 1) ls r h)
    | .gt => (0 < x → nx t.toNat ls r h) ∧ (¬ 0 < x → nx (i + 1) ls r h)
    | .le => (x ≤ 0 → nx t.toNat ls r h) ∧ (¬ x ≤ 0 → nx (i + 1) ls r h))
  | .if_icmp c t => eII st (fun y x r => match c with
    | .eq => (x = y → nx t.toNat ls r h) ∧ (¬ x = y → nx (i + 1) ls r h)
    | .ne => (x = y → nx (i + 1) ls r h) ∧ (¬ x = y → nx t.toNat ls r h)
    | .lt => (x < y → nx t.toNat ls r h) ∧ (¬ x < y → nx (i + 1) ls r h)
    | .ge => (y ≤ x → nx t.toNat ls r h) ∧ (¬ y ≤ x → nx (i + 1) ls r h)
    | .gt => (y < x → nx t.toNat ls r h) ∧ (¬ y < x → nx (i + 1) ls r h)
    | .le => (x ≤ y → nx t.toNat ls r h) ∧ (¬ x ≤ y → nx (i + 1) ls r h))
  | .lookupswitch d ps => eI st (fun x r => qsw (fun t => nx t ls r h) x ps.toList d.toNat)
  | .getfield f => eR st (fun a r => qgf h a (f / 64) (f % 64) (fun v => nx (i + 1) ls (v :: r) h))
  | .putfield f => eVR st (fun v a r => qpf h a (f / 64) (f % 64) v (fun h' => nx (i + 1) ls r h'))
  | .iaload => eIR st (fun j a r => qial h sc a j (fun x => nx (i + 1) ls (.int x :: r) h))
  | .baload => eIR st (fun j a r => qbal h a j (fun x => nx (i + 1) ls (.int x :: r) h))
  | .iastore => eIIR st (fun v j a r => qias h a j v (fun h' => nx (i + 1) ls r h'))
  | .bastore => eIIR st (fun v j a r => qbas h a j v (fun h' => nx (i + 1) ls r h'))
  | .arraylength => eR st (fun a r => qlen sc a (fun x => nx (i + 1) ls (.int x :: r) h))
  | .getstatic _ => nx (i + 1) ls (.int 1 :: st) h
  | .invokestatic f => eo (Nat.ble (f % 16) st.length && Nat.ble ((st.drop (f % 16)).map Value.category).sum 8) (qCall d (f / 16) (st.take (f % 16)).reverse h (fun v h' => nx (i + 1) ls (v.toList ++ st.drop (f % 16)) h'))
  | .invokevirtual f => eo (Nat.ble (f / 16 % 16) st.length && Nat.ble ((st.drop (f / 16 % 16)).map Value.category).sum 8 && qrv (st.take (f / 16 % 16)).reverse (f % 16)) (qCall d (f / 256) (st.take (f / 16 % 16)).reverse h (fun v h' => nx (i + 1) ls (v.toList ++ st.drop (f / 16 % 16)) h'))
  | .ireturn => eI st (fun x r => eN r (match rt with
    | some .int => K (some (.int x)) h
    | some .boolean => (x = 0 ∨ x = 1) ∧ K (some (.int x)) h
    | some .byte => x = 0 ∧ K (some (.int x)) h
    | _ => False))
  | .lreturn => eL st (fun x r => eN r (match rt with
    | some .long => K (some (.long x)) h
    | _ => False))
  | .return_ => eN st (match rt with
    | none => K none h
    | _ => False)
  | _ => False
/-- n steps, or as far as a place of 'cut' -/
def wp (X : qX) (C : List Instr) (cut : List Nat) : Nat → Nat → qL → List Value → qH → Prop
  | 0, i, ls, st, h => qAt X i ls st h
  | n + 1, i, ls, st, h => match qnth C i with
    | some a => qstep X.1 X.2.2.1 X.2.2.2.1 X.2.2.2.2 (fun i ls st h => match cut.elem i with
      | true => qAt X i ls st h
      | false => wp X C cut n i ls st h) a i ls st h
    | none => False

/-! the rows of an instruction each, in these words -/
section QOK
variable {X : qX} {pc : Nat} {ls : qL} {r : List Value} {h : qH}
theorem ok_iadd {x y : Int32} (hd : decode (qb X.2.1) pc = .ok (.iadd, 1)) (kk : qAtP X (pc + 1) ls (.int (x + y) :: r) h) : qAtP X pc ls (.int y :: .int x :: r) h := by
  intro p l e R s m args below meth c D cI cB ad A H locs k0 n Q M hP hD hS lsM hl
  exact lv_iadd M.1 M.2.1 hd (kk p l e R s m args below meth c D cI cB ad A H locs k0 n Q M hP hD hS lsM hl)
theorem ok_isub {x y : Int32} (hd : decode (qb X.2.1) pc = .ok (.isub, 1)) (kk : qAtP X (pc + 1) ls (.int (x - y) :: r) h) : qAtP X pc ls (.int y :: .int x :: r) h := by
  intro p l e R s m args below meth c D cI cB ad A H locs k0 n Q M hP hD hS lsM hl
  exact lv_isub M.1 M.2.1 hd (kk p l e R s m args below meth c D cI cB ad A H locs k0 n Q M hP hD hS lsM hl)
theorem ok_imul {x y : Int32} (hd : decode (qb X.2.1) pc = .ok (.imul, 1)) (kk : qAtP X (pc + 1) ls (.int (x * y) :: r) h) : qAtP X pc ls (.int y :: .int x :: r) h := by
  intro p l e R s m args below meth c D cI cB ad A H locs k0 n Q M hP hD hS lsM hl
  exact lv_imul M.1 M.2.1 hd (kk p l e R s m args below meth c D cI cB ad A H locs k0 n Q M hP hD hS lsM hl)
theorem ok_iand {x y : Int32} (hd : decode (qb X.2.1) pc = .ok (.iand, 1)) (kk : qAtP X (pc + 1) ls (.int (x &&& y) :: r) h) : qAtP X pc ls (.int y :: .int x :: r) h := by
  intro p l e R s m args below meth c D cI cB ad A H locs k0 n Q M hP hD hS lsM hl
  exact lv_iand M.1 M.2.1 hd (kk p l e R s m args below meth c D cI cB ad A H locs k0 n Q M hP hD hS lsM hl)
theorem ok_ior {x y : Int32} (hd : decode (qb X.2.1) pc = .ok (.ior, 1)) (kk : qAtP X (pc + 1) ls (.int (x ||| y) :: r) h) : qAtP X pc ls (.int y :: .int x :: r) h := by
  intro p l e R s m args below meth c D cI cB ad A H locs k0 n Q M hP hD hS lsM hl
  exact lv_ior M.1 M.2.1 hd (kk p l e R s m args below meth c D cI cB ad A H locs k0 n Q M hP hD hS lsM hl)
theorem ok_ixor {x y : Int32} (hd : decode (qb X.2.1) pc = .ok (.ixor, 1)) (kk : qAtP X (pc + 1) ls (.int (x ^^^ y) :: r) h) : qAtP X pc ls (.int y :: .int x :: r) h := by
  intro p l e R s m args below meth c D cI cB ad A H locs k0 n Q M hP hD hS lsM hl
  exact lv_ixor M.1 M.2.1 hd (kk p l e R s m args below meth c D cI cB ad A H locs k0 n Q M hP hD hS lsM hl)
theorem ok_ishl {x y : Int32} (hd : decode (qb X.2.1) pc = .ok (.ishl, 1)) (kk : qAtP X (pc + 1) ls (.int (x <<< (y &&& 31)) :: r) h) : qAtP X pc ls (.int y :: .int x :: r) h := by
  intro p l e R s m args below meth c D cI cB ad A H locs k0 n Q M hP hD hS lsM hl
  exact lv_ishl M.1 M.2.1 hd (kk p l e R s m args below meth c D cI cB ad A H locs k0 n Q M hP hD hS lsM hl)
theorem ok_ishr {x y : Int32} (hd : decode (qb X.2.1) pc = .ok (.ishr, 1)) (kk : qAtP X (pc + 1) ls (.int (x >>> (y &&& 31)) :: r) h) : qAtP X pc ls (.int y :: .int x :: r) h := by
  intro p l e R s m args below meth c D cI cB ad A H locs k0 n Q M hP hD hS lsM hl
  exact lv_ishr M.1 M.2.1 hd (kk p l e R s m args below meth c D cI cB ad A H locs k0 n Q M hP hD hS lsM hl)
theorem ok_iushr {x y : Int32} (hd : decode (qb X.2.1) pc = .ok (.iushr, 1)) (kk : qAtP X (pc + 1) ls (.int ((x.toUInt32 >>> (y.toUInt32 &&& Int32.toUInt32 31)).toInt32) :: r) h) : qAtP X pc ls (.int y :: .int x :: r) h := by
  intro p l e R s m args below meth c D cI cB ad A H locs k0 n Q M hP hD hS lsM hl
  exact lv_iushr M.1 M.2.1 hd rfl (kk p l e R s m args below meth c D cI cB ad A H locs k0 n Q M hP hD hS lsM hl)
theorem ok_idiv {x y : Int32} (hd : decode (qb X.2.1) pc = .ok (.idiv, 1)) (hne : ¬ y = 0) (kk : qAtP X (pc + 1) ls (.int (x / y) :: r) h) : qAtP X pc ls (.int y :: .int x :: r) h := by
  intro p l e R s m args below meth c D cI cB ad A H locs k0 n Q M hP hD hS lsM hl
  exact lv_idiv M.1 M.2.1 hd hne (kk p l e R s m args below meth c D cI cB ad A H locs k0 n Q M hP hD hS lsM hl)
theorem ok_irem {x y : Int32} (hd : decode (qb X.2.1) pc = .ok (.irem, 1)) (hne : ¬ y = 0) (kk : qAtP X (pc + 1) ls (.int (x - x / y * y) :: r) h) : qAtP X pc ls (.int y :: .int x :: r) h := by
  intro p l e R s m args below meth c D cI cB ad A H locs k0 n Q M hP hD hS lsM hl
  exact lv_irem M.1 M.2.1 hd hne (kk p l e R s m args below meth c D cI cB ad A H locs k0 n Q M hP hD hS lsM hl)
theorem ok_ladd {x y : Int64} (hd : decode (qb X.2.1) pc = .ok (.ladd, 1)) (kk : qAtP X (pc + 1) ls (.long (x + y) :: r) h) : qAtP X pc ls (.long y :: .long x :: r) h := by
  intro p l e R s m args below meth c D cI cB ad A H locs k0 n Q M hP hD hS lsM hl
  exact lv_ladd M.1 M.2.1 hd (kk p l e R s m args below meth c D cI cB ad A H locs k0 n Q M hP hD hS lsM hl)
theorem ok_lmul {x y : Int64} (hd : decode (qb X.2.1) pc = .ok (.lmul, 1)) (kk : qAtP X (pc + 1) ls (.long (x * y) :: r) h) : qAtP X pc ls (.long y :: .long x :: r) h := by
  intro p l e R s m args below meth c D cI cB ad A H locs k0 n Q M hP hD hS lsM hl
  exact lv_lmul M.1 M.2.1 hd (kk p l e R s m args below meth c D cI cB ad A H locs k0 n Q M hP hD hS lsM hl)
theorem ok_land {x y : Int64} (hd : decode (qb X.2.1) pc = .ok (.land, 1)) (kk : qAtP X (pc + 1) ls (.long (x &&& y) :: r) h) : qAtP X pc ls (.long y :: .long x :: r) h := by
  intro p l e R s m args below meth c D cI cB ad A H locs k0 n Q M hP hD hS lsM hl
  exact lv_land M.1 M.2.1 hd (kk p l e R s m args below meth c D cI cB ad A H locs k0 n Q M hP hD hS lsM hl)
theorem ok_ldiv {x y : Int64} (hd : decode (qb X.2.1) pc = .ok (.ldiv, 1)) (hne : ¬ y = 0) (kk : qAtP X (pc + 1) ls (.long (x / y) :: r) h) : qAtP X pc ls (.long y :: .long x :: r) h := by
  intro p l e R s m args below meth c D cI cB ad A H locs k0 n Q M hP hD hS lsM hl
  exact lv_ldiv M.1 M.2.1 hd hne (kk p l e R s m args below meth c D cI cB ad A H locs k0 n Q M hP hD hS lsM hl)
theorem ok_lrem {x y : Int64} (hd : decode (qb X.2.1) pc = .ok (.lrem, 1)) (hne : ¬ y = 0) (kk : qAtP X (pc + 1) ls (.long (x - x / y * y) :: r) h) : qAtP X pc ls (.long y :: .long x :: r) h := by
  intro p l e R s m args below meth c D cI cB ad A H locs k0 n Q M hP hD hS lsM hl
  exact lv_lrem M.1 M.2.1 hd hne (kk p l e R s m args below meth c D cI cB ad A H locs k0 n Q M hP hD hS lsM hl)
theorem ok_lcmp {x y : Int64} (hd : decode (qb X.2.1) pc = .ok (.lcmp, 1)) (kk : qAtP X (pc + 1) ls (.int (lg_cmp x y) :: r) h) : qAtP X pc ls (.long y :: .long x :: r) h := by
  intro p l e R s m args below meth c D cI cB ad A H locs k0 n Q M hP hD hS lsM hl
  exact W.lcmp M.1 M.2.1 hd (kk p l e R s m args below meth c D cI cB ad A H locs k0 n Q M hP hD hS lsM hl)
theorem ok_i2l {x : Int32} (hd : decode (qb X.2.1) pc = .ok (.i2l, 1)) (kk : qAtP X (pc + 1) ls (.long x.toInt64 :: r) h) : qAtP X pc ls (.int x :: r) h := by
  intro p l e R s m args below meth c D cI cB ad A H locs k0 n Q M hP hD hS lsM hl
  exact lv_i2l M.1 M.2.1 hd rfl (kk p l e R s m args below meth c D cI cB ad A H locs k0 n Q M hP hD hS lsM hl)
theorem ok_l2i {x : Int64} (hd : decode (qb X.2.1) pc = .ok (.l2i, 1)) (kk : qAtP X (pc + 1) ls (.int x.toInt32 :: r) h) : qAtP X pc ls (.long x :: r) h := by
  intro p l e R s m args below meth c D cI cB ad A H locs k0 n Q M hP hD hS lsM hl
  exact lv_l2i M.1 M.2.1 hd rfl (kk p l e R s m args below meth c D cI cB ad A H locs k0 n Q M hP hD hS lsM hl)
theorem ok_i2b {x : Int32} (hd : decode (qb X.2.1) pc = .ok (.i2b, 1)) (kk : qAtP X (pc + 1) ls (.int x.toInt8.toInt32 :: r) h) : qAtP X pc ls (.int x :: r) h := by
  intro p l e R s m args below meth c D cI cB ad A H locs k0 n Q M hP hD hS lsM hl
  exact lv_i2b M.1 M.2.1 hd rfl (kk p l e R s m args below meth c D cI cB ad A H locs k0 n Q M hP hD hS lsM hl)
theorem ok_i2c {x : Int32} (hd : decode (qb X.2.1) pc = .ok (.i2c, 1)) (kk : qAtP X (pc + 1) ls (.int (x.toUInt32 % 65536).toInt32 :: r) h) : qAtP X pc ls (.int x :: r) h := by
  intro p l e R s m args below meth c D cI cB ad A H locs k0 n Q M hP hD hS lsM hl
  exact lv_i2c M.1 M.2.1 hd rfl (kk p l e R s m args below meth c D cI cB ad A H locs k0 n Q M hP hD hS lsM hl)
theorem ok_iconst {v : Int} (hd : decode (qb X.2.1) pc = .ok (.iconst v, 1)) (kk : qAtP X (pc + 1) ls (.int (Int32.ofInt v) :: r) h) : qAtP X pc ls (r) h := by
  intro p l e R s m args below meth c D cI cB ad A H locs k0 n Q M hP hD hS lsM hl
  exact lv_iconst M.1 M.2.1 hd rfl (kk p l e R s m args below meth c D cI cB ad A H locs k0 n Q M hP hD hS lsM hl)
theorem ok_bipush {v w : Int} (hd : decode (qb X.2.1) pc = .ok (.bipush w, 2)) (hv : (Int8.ofInt w).toInt32 = Int32.ofInt v) (kk : qAtP X (pc + 2) ls (.int (Int32.ofInt v) :: r) h) : qAtP X pc ls (r) h := by
  intro p l e R s m args below meth c D cI cB ad A H locs k0 n Q M hP hD hS lsM hl
  exact lv_bipush M.1 M.2.1 hd hv (kk p l e R s m args below meth c D cI cB ad A H locs k0 n Q M hP hD hS lsM hl)
theorem ok_sipush {v w : Int} (hd : decode (qb X.2.1) pc = .ok (.sipush w, 3)) (hv : (Int16.ofInt w).toInt32 = Int32.ofInt v) (kk : qAtP X (pc + 3) ls (.int (Int32.ofInt v) :: r) h) : qAtP X pc ls (r) h := by
  intro p l e R s m args below meth c D cI cB ad A H locs k0 n Q M hP hD hS lsM hl
  exact lv_sipush M.1 M.2.1 hd hv (kk p l e R s m args below meth c D cI cB ad A H locs k0 n Q M hP hD hS lsM hl)
theorem ok_lconst {v : Int} {w : Fin 2} (hd : decode (qb X.2.1) pc = .ok (.lconst w, 1)) (hv : Int64.ofNat w = Int64.ofInt v) (kk : qAtP X (pc + 1) ls (.long (Int64.ofInt v) :: r) h) : qAtP X pc ls (r) h := by
  intro p l e R s m args below meth c D cI cB ad A H locs k0 n Q M hP hD hS lsM hl
  exact lv_lconst M.1 M.2.1 hd hv (kk p l e R s m args below meth c D cI cB ad A H locs k0 n Q M hP hD hS lsM hl)
theorem qcv_cat (ad : Nat → Nat) (v : Value) : (qcv ad v).category = v.category := by cases v <;> rfl
theorem qpr_mem {ad : Nat → Nat} {ls : qL} {i : Nat} {w : Value} : (i, w) ∈ qpr ad ls ↔ ∃ v, ls.getD i none = some v ∧ w = qcv ad v := by
  unfold qpr
  constructor
  · intro h
    obtain ⟨j, hj, hm⟩ := List.mem_filterMap.mp h
    cases hv : ls.getD j none with
    | none => rw [hv] at hm; cases hm
    | some v =>
      rw [hv] at hm
      have := Option.some.inj hm
      cases this
      exact ⟨v, hv, rfl⟩
  · rintro ⟨v, hv, rfl⟩
    refine List.mem_filterMap.mpr ⟨i, List.mem_range.mpr ?_, by rw [hv]; rfl⟩
    rcases Nat.lt_or_ge i ls.length with q | q
    · exact q
    · rw [List.getD_eq_getElem?_getD, List.getElem?_eq_none q] at hv
      cases hv
theorem lv_into {lsM : Array Slot} {nL : Nat} {l l' : List (Nat × Value)} (h : lv_has lsM nL l) (hl : ∀ q ∈ l', q ∈ l) : lv_has lsM nL l' := ⟨h.1, h.2.1, fun q hq => h.2.2 q (hl q hq)⟩
theorem qpr_at {ad : Nat → Nat} {ls : qL} {lsM : Array Slot} {nL i : Nat} {v : Value} (hl : lv_has lsM nL (qpr ad ls)) (hv : ls.getD i none = some v) : lsM[i]? = some (.val (qcv ad v)) := hl.2.2 (i, qcv ad v) (qpr_mem.mpr ⟨v, hv, rfl⟩)
theorem qso_cat {ls : qL} {k : Nat} (h : qso ls k = true) {j : Nat} {v : Value} (hj : j + 1 = k) (hv : ls.getD j none = some v) : v.category = 1 := by
  subst hj
  simp only [qso, hv] at h
  exact eq_of_beq h
theorem getD_set_ne {ls : qL} {k i : Nat} {x : Option Value} (h : i ≠ k) : (ls.set k x).getD i none = ls.getD i none := by
  rw [List.getD_eq_getElem?_getD, List.getD_eq_getElem?_getD, List.getElem?_set_ne (Ne.symm h)]
theorem getD_set_eq {ls : qL} {k : Nat} {x : Option Value} (h : k < ls.length) : (ls.set k x).getD k none = x := by
  rw [List.getD_eq_getElem?_getD, List.getElem?_set_self h]
  rfl
theorem ok_iload_n {x : Int32} {k : Nat} {f : Fin 4} (hd : decode (qb X.2.1) pc = .ok (.iload_n f, 1)) (hf : f.val = k) (hv : ls.getD k none = some (.int x)) (kk : qAtP X (pc + 1) ls (.int x :: r) h) : qAtP X pc ls r h := by
  intro p l e R s m args below meth c D cI cB ad A H locs k0 n Q M hP hD hS lsM hl
  exact lv_iload_n M.1 M.2.1 hd hf (qpr_at hl.2 hv) (kk p l e R s m args below meth c D cI cB ad A H locs k0 n Q M hP hD hS lsM hl)
theorem ok_iload {x : Int32} {k : Nat} (hd : decode (qb X.2.1) pc = .ok (.iload k, 2)) (hv : ls.getD k none = some (.int x)) (kk : qAtP X (pc + 2) ls (.int x :: r) h) : qAtP X pc ls r h := by
  intro p l e R s m args below meth c D cI cB ad A H locs k0 n Q M hP hD hS lsM hl
  exact lv_iload M.1 M.2.1 hd (qpr_at hl.2 hv) (kk p l e R s m args below meth c D cI cB ad A H locs k0 n Q M hP hD hS lsM hl)
theorem ok_lload_n {x : Int64} {k : Nat} {f : Fin 4} (hd : decode (qb X.2.1) pc = .ok (.lload_n f, 1)) (hf : f.val = k) (hv : ls.getD k none = some (.long x)) (kk : qAtP X (pc + 1) ls (.long x :: r) h) : qAtP X pc ls r h := by
  intro p l e R s m args below meth c D cI cB ad A H locs k0 n Q M hP hD hS lsM hl
  exact lv_lload_n M.1 M.2.1 hd hf (qpr_at hl.2 hv) (kk p l e R s m args below meth c D cI cB ad A H locs k0 n Q M hP hD hS lsM hl)
theorem ok_lload {x : Int64} {k : Nat} (hd : decode (qb X.2.1) pc = .ok (.lload k, 2)) (hv : ls.getD k none = some (.long x)) (kk : qAtP X (pc + 2) ls (.long x :: r) h) : qAtP X pc ls r h := by
  intro p l e R s m args below meth c D cI cB ad A H locs k0 n Q M hP hD hS lsM hl
  exact lv_lload M.1 M.2.1 hd (qpr_at hl.2 hv) (kk p l e R s m args below meth c D cI cB ad A H locs k0 n Q M hP hD hS lsM hl)
theorem ok_aload_n {x : Nat} {k : Nat} {f : Fin 4} (hd : decode (qb X.2.1) pc = .ok (.aload_n f, 1)) (hf : f.val = k) (hv : ls.getD k none = some (.ref x)) (kk : qAtP X (pc + 1) ls (.ref x :: r) h) : qAtP X pc ls r h := by
  intro p l e R s m args below meth c D cI cB ad A H locs k0 n Q M hP hD hS lsM hl
  exact lv_aload_n M.1 M.2.1 hd hf (qpr_at hl.2 hv) (kk p l e R s m args below meth c D cI cB ad A H locs k0 n Q M hP hD hS lsM hl)
theorem ok_aload {x : Nat} {k : Nat} (hd : decode (qb X.2.1) pc = .ok (.aload k, 2)) (hv : ls.getD k none = some (.ref x)) (kk : qAtP X (pc + 2) ls (.ref x :: r) h) : qAtP X pc ls r h := by
  intro p l e R s m args below meth c D cI cB ad A H locs k0 n Q M hP hD hS lsM hl
  exact lv_aload M.1 M.2.1 hd (qpr_at hl.2 hv) (kk p l e R s m args below meth c D cI cB ad A H locs k0 n Q M hP hD hS lsM hl)
theorem qst1 {ls' : Array Slot} {nL k : Nat} {ad : Nat → Nat} {v : Value} (hlt : k < ls.length) (hs : qso ls k = true) (h1 : lv_has ls' nL ((k, qcv ad v) :: (qpr ad ls).filter (fun q => !(q.1 == k) && !(q.1 + 1 == k && q.2.category == 2)))) : lv_has ls' nL (qpr ad (ls.set k (some v))) := by
  refine lv_into h1 ?_
  rintro ⟨i, w⟩ hq
  obtain ⟨u, hu, rfl⟩ := qpr_mem.mp hq
  by_cases hik : i = k
  · subst hik
    rw [getD_set_eq hlt] at hu
    cases hu
    exact List.mem_cons_self
  · rw [getD_set_ne hik] at hu
    refine List.mem_cons_of_mem _ (List.mem_filter.mpr ⟨qpr_mem.mpr ⟨u, hu, rfl⟩, ?_⟩)
    have h2 : ¬ (i + 1 = k ∧ (qcv ad u).category = 2) := fun z => by
      have := qso_cat hs z.1 hu
      rw [qcv_cat, this] at z
      exact absurd z.2 (by decide)
    simp only [Bool.and_eq_true, Bool.not_eq_true', beq_eq_false_iff_ne, ne_eq, hik, not_false_eq_true, true_and, Bool.and_eq_false_iff]
    by_cases z : i + 1 = k
    · exact Or.inr (fun w => h2 ⟨z, w⟩)
    · exact Or.inl z
theorem qst2 {ls' : Array Slot} {nL k : Nat} {ad : Nat → Nat} {v : Value} (hlt : k + 1 < ls.length) (hs : qso ls k = true) (h1 : lv_has ls' nL ((k, qcv ad v) :: (qpr ad ls).filter (fun q => !(q.1 == k) && (!(q.1 == k + 1) && !(q.1 + 1 == k && q.2.category == 2))))) : lv_has ls' nL (qpr ad ((ls.set k (some v)).set (k + 1) none)) := by
  refine lv_into h1 ?_
  rintro ⟨i, w⟩ hq
  obtain ⟨u, hu, rfl⟩ := qpr_mem.mp hq
  by_cases hik1 : i = k + 1
  · subst hik1
    rw [getD_set_eq (by simpa using hlt)] at hu
    cases hu
  · rw [getD_set_ne hik1] at hu
    by_cases hik : i = k
    · subst hik
      rw [getD_set_eq (by omega)] at hu
      cases hu
      exact List.mem_cons_self
    · rw [getD_set_ne hik] at hu
      refine List.mem_cons_of_mem _ (List.mem_filter.mpr ⟨qpr_mem.mpr ⟨u, hu, rfl⟩, ?_⟩)
      have h2 : ¬ (i + 1 = k ∧ (qcv ad u).category = 2) := fun z => by
        have := qso_cat hs z.1 hu
        rw [qcv_cat, this] at z
        exact absurd z.2 (by decide)
      simp only [Bool.and_eq_true, Bool.not_eq_true', beq_eq_false_iff_ne, ne_eq, hik, hik1, not_false_eq_true, true_and, Bool.and_eq_false_iff]
      by_cases z : i + 1 = k
      · exact Or.inr (fun w => h2 ⟨z, w⟩)
      · exact Or.inl z
theorem ok_istore_n {x : Int32} {k : Nat} {f : Fin 4} (hd : decode (qb X.2.1) pc = .ok (.istore_n f, 1)) (hf : f.val = k) (hlt : k < ls.length) (hs : qso ls k = true) (kk : qAtP X (pc + 1) (ls.set k (some (.int x))) r h) : qAtP X pc ls (.int x :: r) h := by
  intro p l e R s m args below meth c D cI cB ad A H locs k0 n Q M hP hD hS lsM hl
  exact lv_istore_n M.1 M.2.1 hd hf hl.2 (by have := hl.1; omega) rfl (fun ls' hl' => kk p l e R s m args below meth c D cI cB ad A H locs k0 n Q M hP hD hS ls' ⟨by rw [List.length_set]; exact hl.1, qst1 (v := .int x) hlt hs hl'⟩)
theorem ok_istore {x : Int32} {k : Nat} (hd : decode (qb X.2.1) pc = .ok (.istore k, 2)) (hlt : k < ls.length) (hs : qso ls k = true) (kk : qAtP X (pc + 2) (ls.set k (some (.int x))) r h) : qAtP X pc ls (.int x :: r) h := by
  intro p l e R s m args below meth c D cI cB ad A H locs k0 n Q M hP hD hS lsM hl
  exact lv_istore M.1 M.2.1 hd hl.2 (by have := hl.1; omega) rfl (fun ls' hl' => kk p l e R s m args below meth c D cI cB ad A H locs k0 n Q M hP hD hS ls' ⟨by rw [List.length_set]; exact hl.1, qst1 (v := .int x) hlt hs hl'⟩)
theorem ok_astore_n {x : Nat} {k : Nat} {f : Fin 4} (hd : decode (qb X.2.1) pc = .ok (.astore_n f, 1)) (hf : f.val = k) (hlt : k < ls.length) (hs : qso ls k = true) (kk : qAtP X (pc + 1) (ls.set k (some (.ref x))) r h) : qAtP X pc ls (.ref x :: r) h := by
  intro p l e R s m args below meth c D cI cB ad A H locs k0 n Q M hP hD hS lsM hl
  exact lv_astore_n M.1 M.2.1 hd hf hl.2 (by have := hl.1; omega) rfl (fun ls' hl' => kk p l e R s m args below meth c D cI cB ad A H locs k0 n Q M hP hD hS ls' ⟨by rw [List.length_set]; exact hl.1, qst1 (v := .ref x) hlt hs hl'⟩)
theorem ok_astore {x : Nat} {k : Nat} (hd : decode (qb X.2.1) pc = .ok (.astore k, 2)) (hlt : k < ls.length) (hs : qso ls k = true) (kk : qAtP X (pc + 2) (ls.set k (some (.ref x))) r h) : qAtP X pc ls (.ref x :: r) h := by
  intro p l e R s m args below meth c D cI cB ad A H locs k0 n Q M hP hD hS lsM hl
  exact lv_astore M.1 M.2.1 hd hl.2 (by have := hl.1; omega) rfl (fun ls' hl' => kk p l e R s m args below meth c D cI cB ad A H locs k0 n Q M hP hD hS ls' ⟨by rw [List.length_set]; exact hl.1, qst1 (v := .ref x) hlt hs hl'⟩)
theorem ok_lstore_n {x : Int64} {k : Nat} {f : Fin 4} (hd : decode (qb X.2.1) pc = .ok (.lstore_n f, 1)) (hf : f.val = k) (hlt : k + 1 < ls.length) (hs : qso ls k = true) (kk : qAtP X (pc + 1) ((ls.set k (some (.long x))).set (k + 1) none) r h) : qAtP X pc ls (.long x :: r) h := by
  intro p l e R s m args below meth c D cI cB ad A H locs k0 n Q M hP hD hS lsM hl
  exact lv_lstore_n M.1 M.2.1 hd hf hl.2 (by have := hl.1; omega) rfl (fun ls' hl' => kk p l e R s m args below meth c D cI cB ad A H locs k0 n Q M hP hD hS ls' ⟨by rw [List.length_set, List.length_set]; exact hl.1, qst2 (v := .long x) hlt hs hl'⟩)
theorem ok_lstore {x : Int64} {k : Nat} (hd : decode (qb X.2.1) pc = .ok (.lstore k, 2)) (hlt : k + 1 < ls.length) (hs : qso ls k = true) (kk : qAtP X (pc + 2) ((ls.set k (some (.long x))).set (k + 1) none) r h) : qAtP X pc ls (.long x :: r) h := by
  intro p l e R s m args below meth c D cI cB ad A H locs k0 n Q M hP hD hS lsM hl
  exact lv_lstore M.1 M.2.1 hd hl.2 (by have := hl.1; omega) rfl (fun ls' hl' => kk p l e R s m args below meth c D cI cB ad A H locs k0 n Q M hP hD hS ls' ⟨by rw [List.length_set, List.length_set]; exact hl.1, qst2 (v := .long x) hlt hs hl'⟩)
theorem ok_iinc {x : Int32} {k : Nat} {v : Int} (hd : decode (qb X.2.1) pc = .ok (.iinc k v, 3)) (hv : ls.getD k none = some (.int x)) (hlt : k < ls.length) (hs : qso ls k = true) (kk : qAtP X (pc + 3) (ls.set k (some (.int (x + Int32.ofInt v)))) r h) : qAtP X pc ls r h := by
  intro p l e R s m args below meth c D cI cB ad A H locs k0 n Q M hP hD hS lsM hl
  obtain ⟨j, hj⟩ := List.getElem?_of_mem (qpr_mem (ad := ad).mpr ⟨_, hv, rfl⟩)
  exact lv_iinc M.1 M.2.1 hd hl.2 hj rfl (by have := hl.1; omega) rfl (fun ls' hl' => kk p l e R s m args below meth c D cI cB ad A H locs k0 n Q M hP hD hS ls' ⟨by rw [List.length_set]; exact hl.1, qst1 (v := .int (x + Int32.ofInt v)) hlt hs hl'⟩)
theorem ok_dup {v : Value} (hd : decode (qb X.2.1) pc = .ok (.dup, 1)) (hc : v.category = 1) (kk : qAtP X (pc + 1) ls (v :: v :: r) h) : qAtP X pc ls (v :: r) h := by
  intro p l e R s m args below meth c D cI cB ad A H locs k0 n Q M hP hD hS lsM hl
  exact lv_dup M.1 M.2.1 hd (by rw [qcv_cat]; exact hc) (kk p l e R s m args below meth c D cI cB ad A H locs k0 n Q M hP hD hS lsM hl)
theorem ok_dup2 {v w : Value} (hd : decode (qb X.2.1) pc = .ok (.dup2, 1)) (hc : v.category = 1) (hw : w.category = 1) (kk : qAtP X (pc + 1) ls (v :: w :: v :: w :: r) h) : qAtP X pc ls (v :: w :: r) h := by
  intro p l e R s m args below meth c D cI cB ad A H locs k0 n Q M hP hD hS lsM hl
  exact lv_dup2_11 M.1 M.2.1 hd (by rw [qcv_cat]; exact hc) (by rw [qcv_cat]; exact hw) (kk p l e R s m args below meth c D cI cB ad A H locs k0 n Q M hP hD hS lsM hl)
theorem ok_pop {v : Value} (hd : decode (qb X.2.1) pc = .ok (.pop, 1)) (hc : v.category = 1) (kk : qAtP X (pc + 1) ls r h) : qAtP X pc ls (v :: r) h := by
  intro p l e R s m args below meth c D cI cB ad A H locs k0 n Q M hP hD hS lsM hl
  exact lv_pop M.1 M.2.1 hd (by rw [qcv_cat]; exact hc) (kk p l e R s m args below meth c D cI cB ad A H locs k0 n Q M hP hD hS lsM hl)
theorem ok_goto {off : Int} {tgt : Nat} (hd : decode (qb X.2.1) pc = .ok (.goto off, 3)) (ht : (pc : Int) + off = (tgt : Int)) (kk : qAtP X tgt ls r h) : qAtP X pc ls r h := by
  intro p l e R s m args below meth c D cI cB ad A H locs k0 n Q M hP hD hS lsM hl
  exact lv_goto M.1 M.2.1 hd ht (kk p l e R s m args below meth c D cI cB ad A H locs k0 n Q M hP hD hS lsM hl)
theorem ok_if_eq {x : Int32} {off : Int} {tgt : Nat} (hd : decode (qb X.2.1) pc = .ok (.ifCond .eq off, 3)) (ht : (pc : Int) + off = (tgt : Int)) (kt : x = 0 → qAtP X tgt ls r h) (kf : ¬ x = 0 → qAtP X (pc + 3) ls r h) : qAtP X pc ls (.int x :: r) h := by
  intro p l e R s m args below meth c D cI cB ad A H locs k0 n Q M hP hD hS lsM hl
  exact lv_if_eq M.1 M.2.1 hd ht (fun z => kt z p l e R s m args below meth c D cI cB ad A H locs k0 n Q M hP hD hS lsM hl) (fun z => kf z p l e R s m args below meth c D cI cB ad A H locs k0 n Q M hP hD hS lsM hl)
theorem ok_icmp_eq {x y : Int32} {off : Int} {tgt : Nat} (hd : decode (qb X.2.1) pc = .ok (.if_icmp .eq off, 3)) (ht : (pc : Int) + off = (tgt : Int)) (kt : x = y → qAtP X tgt ls r h) (kf : ¬ x = y → qAtP X (pc + 3) ls r h) : qAtP X pc ls (.int y :: .int x :: r) h := by
  intro p l e R s m args below meth c D cI cB ad A H locs k0 n Q M hP hD hS lsM hl
  exact lv_icmp_eq M.1 M.2.1 hd ht (fun z => kt z p l e R s m args below meth c D cI cB ad A H locs k0 n Q M hP hD hS lsM hl) (fun z => kf z p l e R s m args below meth c D cI cB ad A H locs k0 n Q M hP hD hS lsM hl)
theorem ok_if_ne {x : Int32} {off : Int} {tgt : Nat} (hd : decode (qb X.2.1) pc = .ok (.ifCond .ne off, 3)) (ht : (pc : Int) + off = (tgt : Int)) (kt : ¬ x = 0 → qAtP X tgt ls r h) (kf : x = 0 → qAtP X (pc + 3) ls r h) : qAtP X pc ls (.int x :: r) h := by
  intro p l e R s m args below meth c D cI cB ad A H locs k0 n Q M hP hD hS lsM hl
  exact lv_if_ne M.1 M.2.1 hd ht (fun z => kt z p l e R s m args below meth c D cI cB ad A H locs k0 n Q M hP hD hS lsM hl) (fun z => kf z p l e R s m args below meth c D cI cB ad A H locs k0 n Q M hP hD hS lsM hl)
theorem ok_icmp_ne {x y : Int32} {off : Int} {tgt : Nat} (hd : decode (qb X.2.1) pc = .ok (.if_icmp .ne off, 3)) (ht : (pc : Int) + off = (tgt : Int)) (kt : ¬ x = y → qAtP X tgt ls r h) (kf : x = y → qAtP X (pc + 3) ls r h) : qAtP X pc ls (.int y :: .int x :: r) h := by
  intro p l e R s m args below meth c D cI cB ad A H locs k0 n Q M hP hD hS lsM hl
  exact lv_icmp_ne M.1 M.2.1 hd ht (fun z => kt z p l e R s m args below meth c D cI cB ad A H locs k0 n Q M hP hD hS lsM hl) (fun z => kf z p l e R s m args below meth c D cI cB ad A H locs k0 n Q M hP hD hS lsM hl)
theorem ok_if_lt {x : Int32} {off : Int} {tgt : Nat} (hd : decode (qb X.2.1) pc = .ok (.ifCond .lt off, 3)) (ht : (pc : Int) + off = (tgt : Int)) (kt : x < 0 → qAtP X tgt ls r h) (kf : ¬ x < 0 → qAtP X (pc + 3) ls r h) : qAtP X pc ls (.int x :: r) h := by
  intro p l e R s m args below meth c D cI cB ad A H locs k0 n Q M hP hD hS lsM hl
  exact lv_if_lt M.1 M.2.1 hd ht (fun z => kt z p l e R s m args below meth c D cI cB ad A H locs k0 n Q M hP hD hS lsM hl) (fun z => kf z p l e R s m args below meth c D cI cB ad A H locs k0 n Q M hP hD hS lsM hl)
theorem ok_icmp_lt {x y : Int32} {off : Int} {tgt : Nat} (hd : decode (qb X.2.1) pc = .ok (.if_icmp .lt off, 3)) (ht : (pc : Int) + off = (tgt : Int)) (kt : x < y → qAtP X tgt ls r h) (kf : ¬ x < y → qAtP X (pc + 3) ls r h) : qAtP X pc ls (.int y :: .int x :: r) h := by
  intro p l e R s m args below meth c D cI cB ad A H locs k0 n Q M hP hD hS lsM hl
  exact lv_icmp_lt M.1 M.2.1 hd ht (fun z => kt z p l e R s m args below meth c D cI cB ad A H locs k0 n Q M hP hD hS lsM hl) (fun z => kf z p l e R s m args below meth c D cI cB ad A H locs k0 n Q M hP hD hS lsM hl)
theorem ok_if_ge {x : Int32} {off : Int} {tgt : Nat} (hd : decode (qb X.2.1) pc = .ok (.ifCond .ge off, 3)) (ht : (pc : Int) + off = (tgt : Int)) (kt : 0 ≤ x → qAtP X tgt ls r h) (kf : ¬ 0 ≤ x → qAtP X (pc + 3) ls r h) : qAtP X pc ls (.int x :: r) h := by
  intro p l e R s m args below meth c D cI cB ad A H locs k0 n Q M hP hD hS lsM hl
  exact lv_if_ge M.1 M.2.1 hd ht (fun z => kt z p l e R s m args below meth c D cI cB ad A H locs k0 n Q M hP hD hS lsM hl) (fun z => kf z p l e R s m args below meth c D cI cB ad A H locs k0 n Q M hP hD hS lsM hl)
theorem ok_icmp_ge {x y : Int32} {off : Int} {tgt : Nat} (hd : decode (qb X.2.1) pc = .ok (.if_icmp .ge off, 3)) (ht : (pc : Int) + off = (tgt : Int)) (kt : y ≤ x → qAtP X tgt ls r h) (kf : ¬ y ≤ x → qAtP X (pc + 3) ls r h) : qAtP X pc ls (.int y :: .int x :: r) h := by
  intro p l e R s m args below meth c D cI cB ad A H locs k0 n Q M hP hD hS lsM hl
  exact lv_icmp_ge M.1 M.2.1 hd ht (fun z => kt z p l e R s m args below meth c D cI cB ad A H locs k0 n Q M hP hD hS lsM hl) (fun z => kf z p l e R s m args below meth c D cI cB ad A H locs k0 n Q M hP hD hS lsM hl)
theorem ok_if_gt {x : Int32} {off : Int} {tgt : Nat} (hd : decode (qb X.2.1) pc = .ok (.ifCond .gt off, 3)) (ht : (pc : Int) + off = (tgt : Int)) (kt : 0 < x → qAtP X tgt ls r h) (kf : ¬ 0 < x → qAtP X (pc + 3) ls r h) : qAtP X pc ls (.int x :: r) h := by
  intro p l e R s m args below meth c D cI cB ad A H locs k0 n Q M hP hD hS lsM hl
  exact lv_if_gt M.1 M.2.1 hd ht (fun z => kt z p l e R s m args below meth c D cI cB ad A H locs k0 n Q M hP hD hS lsM hl) (fun z => kf z p l e R s m args below meth c D cI cB ad A H locs k0 n Q M hP hD hS lsM hl)
theorem ok_icmp_gt {x y : Int32} {off : Int} {tgt : Nat} (hd : decode (qb X.2.1) pc = .ok (.if_icmp .gt off, 3)) (ht : (pc : Int) + off = (tgt : Int)) (kt : y < x → qAtP X tgt ls r h) (kf : ¬ y < x → qAtP X (pc + 3) ls r h) : qAtP X pc ls (.int y :: .int x :: r) h := by
  intro p l e R s m args below meth c D cI cB ad A H locs k0 n Q M hP hD hS lsM hl
  exact lv_icmp_gt M.1 M.2.1 hd ht (fun z => kt z p l e R s m args below meth c D cI cB ad A H locs k0 n Q M hP hD hS lsM hl) (fun z => kf z p l e R s m args below meth c D cI cB ad A H locs k0 n Q M hP hD hS lsM hl)
theorem ok_if_le {x : Int32} {off : Int} {tgt : Nat} (hd : decode (qb X.2.1) pc = .ok (.ifCond .le off, 3)) (ht : (pc : Int) + off = (tgt : Int)) (kt : x ≤ 0 → qAtP X tgt ls r h) (kf : ¬ x ≤ 0 → qAtP X (pc + 3) ls r h) : qAtP X pc ls (.int x :: r) h := by
  intro p l e R s m args below meth c D cI cB ad A H locs k0 n Q M hP hD hS lsM hl
  exact lv_if_le M.1 M.2.1 hd ht (fun z => kt z p l e R s m args below meth c D cI cB ad A H locs k0 n Q M hP hD hS lsM hl) (fun z => kf z p l e R s m args below meth c D cI cB ad A H locs k0 n Q M hP hD hS lsM hl)
theorem ok_icmp_le {x y : Int32} {off : Int} {tgt : Nat} (hd : decode (qb X.2.1) pc = .ok (.if_icmp .le off, 3)) (ht : (pc : Int) + off = (tgt : Int)) (kt : x ≤ y → qAtP X tgt ls r h) (kf : ¬ x ≤ y → qAtP X (pc + 3) ls r h) : qAtP X pc ls (.int y :: .int x :: r) h := by
  intro p l e R s m args below meth c D cI cB ad A H locs k0 n Q M hP hD hS lsM hl
  exact lv_icmp_le M.1 M.2.1 hd ht (fun z => kt z p l e R s m args below meth c D cI cB ad A H locs k0 n Q M hP hD hS lsM hl) (fun z => kf z p l e R s m args below meth c D cI cB ad A H locs k0 n Q M hP hD hS lsM hl)
end QOK
end
section
/-! fields, arrays, the text -/
theorem qW_at {cI cB : ClassId} {ad : Nat → Nat} {h : qH} {r : Nat} (hr : r < 31) : (qW cI cB ad h)[r]? = some (ad r, qce cI cB ad h r) := by
  unfold qW
  rw [List.getElem?_map, List.getElem?_range hr]
  rfl
theorem qce_congr {cI cB : ClassId} {ad : Nat → Nat} {h h' : qH} {r : Nat} (h1 : h'.1 r = h.1 r) (h2 : h'.2 r = h.2 r) : qce cI cB ad h' r = qce cI cB ad h r := by
  unfold qce qfv
  rw [h1, h2]
theorem qI_ne {h : qH} {a k r : Nat} {v : Int32} (hr : r ≠ a) : (qI h a k v).1 r = h.1 r := by
  funext b
  show (if r = a ∧ b = k then v else h.1 r b) = h.1 r b
  rw [if_neg (fun z => hr z.1)]
theorem qJ_ne {h : qH} {a k r : Nat} {v : Int64} (hr : r ≠ a) : (qJ h a k v).2 r = h.2 r := by
  funext b
  show (if r = a ∧ b = k then v else h.2 r b) = h.2 r b
  rw [if_neg (fun z => hr z.1)]
theorem qW_set {cI cB : ClassId} {ad : Nat → Nat} {h h' : qH} {a : Nat} {E : va_E} (ha : a < 31) (hE : qce cI cB ad h' a = E) (hne : ∀ r, r ≠ a → qce cI cB ad h' r = qce cI cB ad h r) : (qW cI cB ad h).set a (ad a, E) = qW cI cB ad h' := by
  subst hE
  apply List.ext_getElem?
  intro i
  by_cases hi : i = a
  · subst hi
    rw [qW_at ha, List.getElem?_set_self (by unfold qW; simp; exact ha)]
  · rw [List.getElem?_set_ne (Ne.symm hi)]
    rcases Nat.lt_or_ge i 31 with q | q
    · rw [qW_at q, qW_at q, hne i hi]
    · rw [List.getElem?_eq_none (by unfold qW; simp; exact q), List.getElem?_eq_none (by unfold qW; simp; exact q)]
theorem qkd_lt {r c : Nat} (h : (qkd r).1 = c) (hc : c = 0 ∨ c = 1 ∨ c = 2) : r < 31 := by
  rcases Nat.lt_or_ge r 31 with q | q
  · exact q
  · unfold qkd at h
    rw [List.getD_eq_getElem?_getD, List.getElem?_eq_none q] at h
    simp only [Option.getD_none] at h
    split at h
    · omega
    · split at h
      · omega
      · split at h
        · omega
        · omega
theorem qkd_97 {r n : Nat} (h : qkd r = (5, n)) : r = 97 := by
  rcases Nat.lt_or_ge r 31 with q | q
  · exact absurd h ((by decide +kernel : ∀ r, r < 31 → ∀ n, n < 1 → (qkd r).1 ≠ 5) r q 0 (by decide) |> fun z w => z (by rw [w]))
  · unfold qkd at h
    rw [List.getD_eq_getElem?_getD, List.getElem?_eq_none q] at h
    simp only [Option.getD_none] at h
    split at h
    · assumption
    · split at h
      · cases h
      · split at h
        · cases h
        · cases h
theorem qkd_98 {r n : Nat} (h : qkd r = (6, n)) : r = 98 ∧ n = 5 := by
  rcases Nat.lt_or_ge r 31 with q | q
  · exact absurd h ((by decide +kernel : ∀ r, r < 31 → ∀ n, n < 1 → (qkd r).1 ≠ 6) r q 0 (by decide) |> fun z w => z (by rw [w]))
  · unfold qkd at h
    rw [List.getD_eq_getElem?_getD, List.getElem?_eq_none q] at h
    simp only [Option.getD_none] at h
    split at h
    · cases h
    · split at h
      · cases h
        exact ⟨by assumption, rfl⟩
      · split at h
        · cases h
        · cases h
theorem qkd_99 {r n : Nat} (h : qkd r = (4, n)) : r = 99 := by
  rcases Nat.lt_or_ge r 31 with q | q
  · exact absurd h ((by decide +kernel : ∀ r, r < 31 → ∀ n, n < 1 → (qkd r).1 ≠ 4) r q 0 (by decide) |> fun z w => z (by rw [w]))
  · unfold qkd at h
    rw [List.getD_eq_getElem?_getD, List.getElem?_eq_none q] at h
    simp only [Option.getD_none] at h
    split at h
    · cases h
    · split at h
      · cases h
      · split at h
        · assumption
        · cases h
theorem qkd_c {r c : Nat} (h : qkd r = (0, c)) : c < 5 := by
  have hr : r < 31 := qkd_lt (c := 0) (by rw [h]) (Or.inl rfl)
  have := (by decide +kernel : ∀ r, r < 31 → (qkd r).1 = 0 → (qkd r).2 < 5) r hr (by rw [h])
  rw [h] at this
  exact this
def qcl (c : Nat) : vw_C := vwCl.getD c (RJ0, TX0, 0)
def qtyF (c : Nat) : Nat → FieldType := match c with
  | 0 => tyX0
  | 1 => tyX2
  | 2 => tyX3
  | 3 => tyX4
  | _ => tyX5
theorem qcl_ok {c : Nat} (hc : c < 5) : vwCl[c]? = some ((qcl c).1, qTf c, qnf c) ∧ (∀ w ∈ u_ws (qcl c).1 (qTf c) (qnf c), w ∈ qU) ∧ (∀ k, k < qnf c → parseFieldDescriptor (qTf c k).2.2.1 = some (qtyF c k)) ∧ (∀ a, a < qnf c → ∀ b, b < qnf c → a ≠ b → (qTf c a).2.1 ≠ (qTf c b).2.1) := by
  match c, hc with
  | 0, _ => exact ⟨rfl, qlay0, tyX0_ok, nmX0⟩
  | 1, _ => exact ⟨rfl, qlay1, tyX2_ok, nmX2⟩
  | 2, _ => exact ⟨rfl, qlay2, tyX3_ok, nmX3⟩
  | 3, _ => exact ⟨rfl, qlay3, tyX4_ok, nmX4⟩
  | 4, _ => exact ⟨rfl, qlay4, tyX5_ok, nmX5⟩
def qfkB (c k : Nat) : Bool := match qfk c k with
  | 0 => (qTf c k).2.2.2 == false && decide (parseFieldDescriptor (qTf c k).2.2.1 = some .int)
  | 1 => (qTf c k).2.2.2 == false && decide (parseFieldDescriptor (qTf c k).2.2.1 = some .long)
  | 3 => (qTf c k).2.2.2 == false && decide (parseFieldDescriptor (qTf c k).2.2.1 = some .boolean)
  | _ => true
theorem qfk_ok : ∀ c, c < 5 → ∀ k, k < qnf c → qfkB c k = true := by decide +kernel
section QCELL
variable {X : qX} {pc : Nat} {ls : qL} {r : List Value} {h : qH}
/-- the two kinds of links of a field -/
def qlk (own idx f : Nat) : Bool := qFT.elem (own, idx, f) || qNT.elem (own, idx, f)
theorem ok_getfield {a ci k idx : Nat} (hd : decode (qb X.2.1) pc = .ok (.getfield idx, 3)) (hlk : qlk (qownL.getD X.2.1 0) idx (64 * ci + k) = true) (hk64 : k < 64) (hka : qkd a = (0, ci)) (hk : k < qnf ci) (kk : qAtP X (pc + 3) ls (qfv h a ci k :: r) h) : qAtP X pc ls (.ref a :: r) h := by
  intro p l e R s m args below meth c D cI cB ad A H locs k0 n Q M hP hD hS lsM hl
  have ha : a < 31 := qkd_lt (c := 0) (by rw [hka]) (Or.inl rfl)
  have hc : ci < 5 := qkd_c hka
  obtain ⟨hcl, hin, -, -⟩ := qcl_ok hc
  have hcell := qW_at (cI := cI) (cB := cB) (ad := ad) (h := h) ha
  unfold qce at hcell
  rw [hka] at hcell
  have hdiv : (64 * ci + k) / 64 = ci := by omega
  have hmod : (64 * ci + k) % 64 = k := by omega
  have go := kk p l e R s m args below meth c D cI cB ad A H locs k0 n Q M hP hD hS lsM hl
  obtain ⟨hx, hb, hml, hown, hts, hK, hA, hRO, -⟩ := M
  have hv : ((List.range (qnf ci)).map (fun k => qcv ad (qfv h a ci k)))[k]? = some (qcv ad (qfv h a ci k)) := by
    rw [List.getElem?_map, List.getElem?_range hk]
    rfl
  rcases (Bool.or_eq_true _ _).mp hlk with q | q
  · have hw := qFT_ok _ (List.mem_of_elem_eq_true q)
    simp only [hdiv, hmod] at hw
    exact va_get hx hb hts hin hown hK hP a hcell hcl k hk (hts _ hw) (fun _ z => z) hv hd go
  · have hw := hRO.2.2.2 _ (List.mem_of_elem_eq_true q)
    simp only [qnest, hdiv, hmod] at hw
    exact va_getN hx hb hts hin hown hK hP a hcell hcl k hk (va_Nw.use rfl hw) (fun _ z => z) hv hd go
theorem qset_map {N k : Nat} {f g : Nat → Value} {v : Value} (hk : k < N) (h1 : g k = v) (h2 : ∀ j, j ≠ k → g j = f j) : ((List.range N).map f).set k v = (List.range N).map g := by
  apply List.ext_getElem?
  intro i
  by_cases hi : i = k
  · subst hi
    rw [List.getElem?_set_self (by simpa using hk), List.getElem?_map, List.getElem?_range hk]
    simp [h1]
  · rw [List.getElem?_set_ne (Ne.symm hi), List.getElem?_map, List.getElem?_map]
    rcases Nat.lt_or_ge i N with q | q
    · rw [List.getElem?_range q]
      simp [h2 i hi]
    · rw [List.getElem?_eq_none (by simpa using q)]
      rfl
theorem ok_put {a ci k idx : Nat} {v : Value} {h' : qH} {ty : FieldType} (hd : decode (qb X.2.1) pc = .ok (.putfield idx, 3)) (hlk : qlk (qownL.getD X.2.1 0) idx (64 * ci + k) = true) (hk64 : k < 64) (hka : qkd a = (0, ci)) (hk : k < qnf ci)
    (hfin : (qTf ci k).2.2.2 = false) (hty : parseFieldDescriptor (qTf ci k).2.2.1 = some ty) (hn : narrow ty v = v) (hfit : fits ty v = true) (hcv : ∀ ad, qcv ad v = v)
    (he : ∀ ad, ∀ j, qcv ad (qfv h' a ci j) = if j = k then v else qcv ad (qfv h a ci j)) (hne : ∀ r, r ≠ a → h'.1 r = h.1 r ∧ h'.2 r = h.2 r) (kk : qAtP X (pc + 3) ls r h') : qAtP X pc ls (v :: .ref a :: r) h := by
  intro p l e R s m args below meth c D cI cB ad A H locs k0 n Q M hP hD hS lsM hl
  have ha : a < 31 := qkd_lt (c := 0) (by rw [hka]) (Or.inl rfl)
  have hc : ci < 5 := qkd_c hka
  obtain ⟨hcl, hin, ht, hnm⟩ := qcl_ok hc
  have hcell := qW_at (cI := cI) (cB := cB) (ad := ad) (h := h) ha
  unfold qce at hcell
  rw [hka] at hcell
  have hdiv : (64 * ci + k) / 64 = ci := by omega
  have hmod : (64 * ci + k) % 64 = k := by omega
  have go := kk p l e R s m args below meth c D cI cB ad A
  have M0 := M
  obtain ⟨hx, hb, hml, hown, hts, hK, hA, hRO, -⟩ := M
  have hset : (qW cI cB ad h).set a (ad a, .inr (ci, ((List.range (qnf ci)).map (fun k => qcv ad (qfv h a ci k))).set k v)) = qW cI cB ad h' := by
    refine qW_set ha ?_ (fun r hr => qce_congr (hne r hr).1 (hne r hr).2)
    unfold qce
    rw [hka]
    refine congrArg (fun l => Sum.inr (ci, l)) ?_
    refine (qset_map hk ?_ ?_).symm
    · rw [he, if_pos rfl]
    · intro j hj
      rw [he, if_neg hj]
  have hlen : k < ((List.range (qnf ci)).map (fun k => qcv ad (qfv h a ci k))).length := by simpa using hk
  show W p l e R s m args below meth _ H locs k0 n Q (F0 m pc lsM (qcv ad v :: .ref (ad a) :: r.map (qcv ad)))
  rw [hcv ad]
  rcases (Bool.or_eq_true _ _).mp hlk with q | q
  · have hw := qFT_ok _ (List.mem_of_elem_eq_true q)
    simp only [hdiv, hmod] at hw
    refine va_put hx hb hts hin (qtyF _) ht hnm hown hK hP hD hS a hcell hcl k hk (hts _ hw) (fun _ z => z) hfin hty hn hfit hlen hd (fun H1 locs1 hP1 hD1 hS1 => ?_)
    rw [hset] at hP1 hD1
    exact go H1 locs1 k0 n Q M0 hP1 hD1 hS1 lsM hl
  · have hw := hRO.2.2.2 _ (List.mem_of_elem_eq_true q)
    simp only [qnest, hdiv, hmod] at hw
    refine va_putN hx hb hts hin (qtyF _) ht hnm hown hK hP hD hS a hcell hcl k hk (va_Nw.use rfl hw) (fun _ z => z) hfin hty hn hfit hlen hd (fun H1 locs1 hP1 hD1 hS1 => ?_)
    rw [hset] at hP1 hD1
    exact go H1 locs1 k0 n Q M0 hP1 hD1 hS1 lsM hl

theorem ok_iald {a N : Nat} {i : Int32} (hd : decode (qb X.2.1) pc = .ok (.iaload, 1)) (hka : qkd a = (1, N)) (hin : vp_in i N) (kk : qAtP X (pc + 1) ls (.int (h.1 a i.toNatClampNeg) :: r) h) : qAtP X pc ls (.int i :: .ref a :: r) h := by
  intro p l e R s m args below meth c D cI cB ad A H locs k0 n Q M hP hD hS lsM hl
  have ha : a < 31 := qkd_lt (c := 1) (by rw [hka]) (by decide)
  have hcell := qW_at (cI := cI) (cB := cB) (ad := ad) (h := h) ha
  unfold qce at hcell
  rw [hka] at hcell
  exact va_iald M.1 M.2.1 M.2.2.2.2.2.1 hP a 0 hcell rfl hin hd (kk p l e R s m args below meth c D cI cB ad A H locs k0 n Q M hP hD hS lsM hl)
theorem ok_iast {a N : Nat} {i v : Int32} (hd : decode (qb X.2.1) pc = .ok (.iastore, 1)) (hka : qkd a = (1, N)) (hin : vp_in i N) (kk : qAtP X (pc + 1) ls r (qI h a i.toNatClampNeg (v))) : qAtP X pc ls (.int v :: .int i :: .ref a :: r) h := by
  intro p l e R s m args below meth c D cI cB ad A H locs k0 n Q M hP hD hS lsM hl
  have ha : a < 31 := qkd_lt (c := 1) (by rw [hka]) (by decide)
  have hcell := qW_at (cI := cI) (cB := cB) (ad := ad) (h := h) ha
  unfold qce at hcell
  rw [hka] at hcell
  refine va_iast M.1 M.2.1 M.2.2.2.2.2.1 hP hD hS a 0 hcell rfl hin hd (fun H1 locs1 hP1 hD1 hS1 => ?_)
  have hset : (qW cI cB ad h).set a (ad a, .inl (cI, N, .inl (upd (h.1 a) i.toNatClampNeg (v)))) = qW cI cB ad (qI h a i.toNatClampNeg (v)) := by
    refine qW_set ha ?_ (fun r hr => qce_congr (qI_ne hr) rfl)
    unfold qce
    rw [hka]
    refine congrArg (fun f => Sum.inl (cI, N, Sum.inl f)) ?_
    funext j
    show (if a = a ∧ j = i.toNatClampNeg then _ else _) = _
    unfold upd
    by_cases hj : j = i.toNatClampNeg
    · rw [if_pos ⟨rfl, hj⟩, if_pos hj]
    · rw [if_neg (fun z => hj z.2), if_neg hj]
  rw [hset] at hP1 hD1
  exact kk p l e R s m args below meth c D cI cB ad A H1 locs1 k0 n Q M hP1 hD1 hS1 lsM hl
theorem ok_bald {a N : Nat} {i : Int32} (hd : decode (qb X.2.1) pc = .ok (.baload, 1)) (hka : qkd a = (2, N)) (hin : vp_in i N) (kk : qAtP X (pc + 1) ls (.int (h.1 a i.toNatClampNeg) :: r) h) : qAtP X pc ls (.int i :: .ref a :: r) h := by
  intro p l e R s m args below meth c D cI cB ad A H locs k0 n Q M hP hD hS lsM hl
  have ha : a < 31 := qkd_lt (c := 2) (by rw [hka]) (by decide)
  have hcell := qW_at (cI := cI) (cB := cB) (ad := ad) (h := h) ha
  unfold qce at hcell
  rw [hka] at hcell
  exact va_bald M.1 M.2.1 M.2.2.2.2.2.1 hP a 1 hcell rfl hin hd (kk p l e R s m args below meth c D cI cB ad A H locs k0 n Q M hP hD hS lsM hl)
theorem ok_bast {a N : Nat} {i v : Int32} (hd : decode (qb X.2.1) pc = .ok (.bastore, 1)) (hka : qkd a = (2, N)) (hin : vp_in i N) (kk : qAtP X (pc + 1) ls r (qI h a i.toNatClampNeg (vp_nar .byte v))) : qAtP X pc ls (.int v :: .int i :: .ref a :: r) h := by
  intro p l e R s m args below meth c D cI cB ad A H locs k0 n Q M hP hD hS lsM hl
  have ha : a < 31 := qkd_lt (c := 2) (by rw [hka]) (by decide)
  have hcell := qW_at (cI := cI) (cB := cB) (ad := ad) (h := h) ha
  unfold qce at hcell
  rw [hka] at hcell
  refine va_bast M.1 M.2.1 M.2.2.2.2.2.1 hP hD hS a 1 hcell rfl hin hd (fun H1 locs1 hP1 hD1 hS1 => ?_)
  have hset : (qW cI cB ad h).set a (ad a, .inl (cB, N, .inl (upd (h.1 a) i.toNatClampNeg (vp_nar .byte v)))) = qW cI cB ad (qI h a i.toNatClampNeg (vp_nar .byte v)) := by
    refine qW_set ha ?_ (fun r hr => qce_congr (qI_ne hr) rfl)
    unfold qce
    rw [hka]
    refine congrArg (fun f => Sum.inl (cB, N, Sum.inl f)) ?_
    funext j
    show (if a = a ∧ j = i.toNatClampNeg then _ else _) = _
    unfold upd
    by_cases hj : j = i.toNatClampNeg
    · rw [if_pos ⟨rfl, hj⟩, if_pos hj]
    · rw [if_neg (fun z => hj z.2), if_neg hj]
  rw [hset] at hP1 hD1
  exact kk p l e R s m args below meth c D cI cB ad A H1 locs1 k0 n Q M hP1 hD1 hS1 lsM hl
theorem ok_alen {a N K : Nat} (hd : decode (qb X.2.1) pc = .ok (.arraylength, 1)) (hka : qkd a = (K, N)) (hK : K = 1 ∨ K = 2) (kk : qAtP X (pc + 1) ls (.int (Int32.ofNat N) :: r) h) : qAtP X pc ls (.ref a :: r) h := by
  intro p l e R s m args below meth c D cI cB ad A H locs k0 n Q M hP hD hS lsM hl
  have ha : a < 31 := qkd_lt (c := K) (by rw [hka]) (Or.inr hK)
  have hcell := qW_at (cI := cI) (cB := cB) (ad := ad) (h := h) ha
  unfold qce at hcell
  rw [hka] at hcell
  rcases hK with rfl | rfl
  · exact va_alen M.1 M.2.1 M.2.2.2.2.2.1 hP a 0 hcell rfl rfl hd (kk p l e R s m args below meth c D cI cB ad A H locs k0 n Q M hP hD hS lsM hl)
  · exact va_alen M.1 M.2.1 M.2.2.2.2.2.1 hP a 1 hcell rfl rfl hd (kk p l e R s m args below meth c D cI cB ad A H locs k0 n Q M hP hD hS lsM hl)
theorem ok_sld {a N : Nat} {i : Int32} (hd : decode (qb X.2.1) pc = .ok (.iaload, 1)) (hka : qkd a = (4, N)) (hin : vp_in i (X.2.2.2.1.1 - 1)) (kk : qAtP X (pc + 1) ls (.int (X.2.2.2.1.2 i.toNatClampNeg) :: r) h) : qAtP X pc ls (.int i :: .ref a :: r) h := by
  have ha := qkd_99 hka
  subst ha
  intro p l e R s m args below meth c D cI cB ad A H locs k0 n Q M hP hD hS lsM hl
  have go := kk p l e R s m args below meth c D cI cB ad A H locs k0 n Q M hP hD hS lsM hl
  obtain ⟨hx, hb, hml, hown, hts, hK, hA, hRO, hroom, hsc, -⟩ := M
  rcases hsc with z | ⟨hX, hbl, hbA⟩
  · rw [z] at hin
    exact absurd (Or.inr (Nat.zero_le _)) hin
  · exact va_sld hx hb hX hbl hbA hS hin hd go
theorem ok_slen {a N : Nat} (hd : decode (qb X.2.1) pc = .ok (.arraylength, 1)) (hka : qkd a = (4, N)) (hnz : X.2.2.2.1.1 ≠ 0) (kk : qAtP X (pc + 1) ls (.int (Int32.ofNat (X.2.2.2.1.1 - 1)) :: r) h) : qAtP X pc ls (.ref a :: r) h := by
  have ha := qkd_99 hka
  subst ha
  intro p l e R s m args below meth c D cI cB ad A H locs k0 n Q M hP hD hS lsM hl
  have go := kk p l e R s m args below meth c D cI cB ad A H locs k0 n Q M hP hD hS lsM hl
  obtain ⟨hx, hb, hml, hown, hts, hK, hA, hRO, hroom, hsc, -⟩ := M
  rcases hsc with z | ⟨hX, hbl, hbA⟩
  · exact absurd z hnz
  · exact va_slen hx hb hX hbl hbA hS hd go
theorem ok_tbld {a N : Nat} {i : Int32} (hd : decode (qb X.2.1) pc = .ok (.baload, 1)) (hka : qkd a = (6, N)) (hin : vp_in i N) (kk : qAtP X (pc + 1) ls (.int (qstr.getD i.toNatClampNeg 0) :: r) h) : qAtP X pc ls (.int i :: .ref a :: r) h := by
  obtain ⟨ha, hN⟩ := qkd_98 hka
  subst ha
  subst hN
  intro p l e R s m args below meth c D cI cB ad A H locs k0 n Q M hP hD hS lsM hl
  have go := kk p l e R s m args below meth c D cI cB ad A H locs k0 n Q M hP hD hS lsM hl
  obtain ⟨hx, hb, hml, hown, hts, hK, hA, hRO, -⟩ := M
  exact va_tb hx hb (hRO.1.1 0 (by decide)).2.2.2 hS hin rfl hd go
theorem ok_tlen {a N : Nat} (hd : decode (qb X.2.1) pc = .ok (.arraylength, 1)) (hka : qkd a = (6, N)) (kk : qAtP X (pc + 1) ls (.int (Int32.ofNat N) :: r) h) : qAtP X pc ls (.ref a :: r) h := by
  obtain ⟨ha, hN⟩ := qkd_98 hka
  subst ha
  subst hN
  intro p l e R s m args below meth c D cI cB ad A H locs k0 n Q M hP hD hS lsM hl
  have go := kk p l e R s m args below meth c D cI cB ad A H locs k0 n Q M hP hD hS lsM hl
  obtain ⟨hx, hb, hml, hown, hts, hK, hA, hRO, -⟩ := M
  exact va_tlen hx hb (hRO.1.1 0 (by decide)).2.2.2 hS rfl hd go
theorem ok_sget0 {a n0 idx : Nat} (hd : decode (qb X.2.1) pc = .ok (.getfield idx, 3)) (hka : qkd a = (5, n0)) (hlk : qFT.elem (qownL.getD X.2.1 0, idx, 320) = true) (kk : qAtP X (pc + 3) ls (.ref 98 :: r) h) : qAtP X pc ls (.ref a :: r) h := by
  have ha := qkd_97 hka
  subst ha
  intro p l e R s m args below meth c D cI cB ad A H locs k0 n Q M hP hD hS lsM hl
  have go := kk p l e R s m args below meth c D cI cB ad A H locs k0 n Q M hP hD hS lsM hl
  obtain ⟨hx, hb, hml, hown, hts, hK, hA, hRO, -⟩ := M
  have hw := qFT_ok _ (List.mem_of_elem_eq_true hlk)
  have e : qTf (320 / 64) (320 % 64) = ("java/lang/String", "value", "[B", true) := by decide +kernel
  dsimp only at hw
  rw [e] at hw
  exact vk_getf hx hb (hRO.1.1 0 (by decide)).2.2.1 hS hown (hts _ hw) (fun _ z => z) hd go
theorem ok_sget1 {a n0 idx : Nat} (hd : decode (qb X.2.1) pc = .ok (.getfield idx, 3)) (hka : qkd a = (5, n0)) (hlk : qFT.elem (qownL.getD X.2.1 0, idx, 321) = true) (kk : qAtP X (pc + 3) ls (.int 0 :: r) h) : qAtP X pc ls (.ref a :: r) h := by
  have ha := qkd_97 hka
  subst ha
  intro p l e R s m args below meth c D cI cB ad A H locs k0 n Q M hP hD hS lsM hl
  have go := kk p l e R s m args below meth c D cI cB ad A H locs k0 n Q M hP hD hS lsM hl
  obtain ⟨hx, hb, hml, hown, hts, hK, hA, hRO, -⟩ := M
  have hw := qFT_ok _ (List.mem_of_elem_eq_true hlk)
  have e : qTf (321 / 64) (321 % 64) = ("java/lang/String", "coder", "B", true) := by decide +kernel
  dsimp only at hw
  rw [e] at hw
  exact vk_getf hx hb (hRO.1.1 0 (by decide)).2.1 hS hown (hts _ hw) (fun _ z => z) hd go
theorem ok_gets {idx : Nat} (hd : decode (qb X.2.1) pc = .ok (.getstatic idx, 3)) (hlk : qST.elem (qownL.getD X.2.1 0, idx) = true) (kk : qAtP X (pc + 3) ls (.int 1 :: r) h) : qAtP X pc ls r h := by
  intro p l e R s m args below meth c D cI cB ad A H locs k0 n Q M hP hD hS lsM hl
  have go := kk p l e R s m args below meth c D cI cB ad A H locs k0 n Q M hP hD hS lsM hl
  obtain ⟨hx, hb, hml, hown, hts, hK, hA, hRO, -⟩ := M
  exact va_gets hx hb hRO.2.1 hS hown (hts _ (qST_ok _ (List.mem_of_elem_eq_true hlk))) (fun _ z => z) hd go
theorem ok_ldcS (hd : decode (qb X.2.1) pc = .ok (.ldc 23, 2)) (ho : qownL.getD X.2.1 0 = 2) (kk : qAtP X (pc + 2) ls (.ref 97 :: r) h) : qAtP X pc ls r h := by
  intro p l e R s m args below meth c D cI cB ad A H locs k0 n Q M hP hD hS lsM hl
  have go := kk p l e R s m args below meth c D cI cB ad A H locs k0 n Q M hP hD hS lsM hl
  obtain ⟨hx, hb, hml, hown, hts, hK, hA, hRO, -⟩ := M
  unfold qow at hown
  rw [ho] at hown
  exact va_ldcS hx hb hown hRO.2.2.1 hd go
theorem ok_ldcI {idx : Nat} {v : Int} (hd : decode (qb X.2.1) pc = .ok (.ldc idx, 2)) (hlk : qIT.elem (qownL.getD X.2.1 0, idx, v) = true) (kk : qAtP X (pc + 2) ls (.int (Int32.ofInt v) :: r) h) : qAtP X pc ls r h := by
  intro p l e R s m args below meth c D cI cB ad A H locs k0 n Q M hP hD hS lsM hl
  exact lv_ldc M.1 M.2.1 M.2.2.2.1 (M.2.2.2.2.1 _ (qIT_ok _ (List.mem_of_elem_eq_true hlk))) hd (kk p l e R s m args below meth c D cI cB ad A H locs k0 n Q M hP hD hS lsM hl)
theorem ok_ldcW {idx : Nat} {v : Int} (hd : decode (qb X.2.1) pc = .ok (.ldc_w idx, 3)) (hlk : qIT.elem (qownL.getD X.2.1 0, idx, v) = true) (kk : qAtP X (pc + 3) ls (.int (Int32.ofInt v) :: r) h) : qAtP X pc ls r h := by
  intro p l e R s m args below meth c D cI cB ad A H locs k0 n Q M hP hD hS lsM hl
  exact lv_ldcw M.1 M.2.1 M.2.2.2.1 (M.2.2.2.2.1 _ (qIT_ok _ (List.mem_of_elem_eq_true hlk))) hd (kk p l e R s m args below meth c D cI cB ad A H locs k0 n Q M hP hD hS lsM hl)
theorem ok_ldcJ {idx : Nat} {v : Int} (hd : decode (qb X.2.1) pc = .ok (.ldc2_w idx, 3)) (hlk : qJT.elem (qownL.getD X.2.1 0, idx, v) = true) (kk : qAtP X (pc + 3) ls (.long (Int64.ofInt v) :: r) h) : qAtP X pc ls r h := by
  intro p l e R s m args below meth c D cI cB ad A H locs k0 n Q M hP hD hS lsM hl
  exact lv_ldc2 M.1 M.2.1 M.2.2.2.1 (M.2.2.2.2.1 _ (qJT_ok _ (List.mem_of_elem_eq_true hlk))) hd (kk p l e R s m args below meth c D cI cB ad A H locs k0 n Q M hP hD hS lsM hl)
theorem qcat_map (ad : Nat → Nat) (l : List Value) : (l.map (qcv ad)).map (fun v => v.category) = l.map Value.category := by
  rw [List.map_map]
  exact List.map_congr_left (fun v _ => qcv_cat ad v)
theorem ok_max {x y : Int32} {idx : Nat} (hd : decode (qb X.2.1) pc = .ok (.invokestatic idx, 3)) (hlk : qMT.elem (qownL.getD X.2.1 0, idx, 136) = true) (hd0 : 0 < X.1) (hr : (r.map Value.category).sum ≤ 8) (kk : qAtP X (pc + 3) ls (.int (if x < y then y else x) :: r) h) : qAtP X pc ls (.int y :: .int x :: r) h := by
  intro p l e R s m args below meth c D cI cB ad A H locs k0 n Q M hP hD hS lsM hl
  have go := kk p l e R s m args below meth c D cI cB ad A H locs k0 n Q M hP hD hS lsM hl
  obtain ⟨hx, hb, hml, hown, hts, hK, hA, hRO, ⟨h1, h2, h3, h4⟩, -⟩ := M
  exact va_mmax hx hb (by rw [hml]; exact hl.2.1.symm) hown (hts _ (qMT_ok _ (List.mem_of_elem_eq_true hlk))) (hts _ qw136.2.2) (hts _ qw136.2.1) (hts _ qw136.1) (by omega) (by rw [qcat_map]; omega) h3 h4 hd go
theorem ok_min {x y : Int32} {idx : Nat} (hd : decode (qb X.2.1) pc = .ok (.invokestatic idx, 3)) (hlk : qMT.elem (qownL.getD X.2.1 0, idx, 137) = true) (hd0 : 0 < X.1) (hr : (r.map Value.category).sum ≤ 8) (kk : qAtP X (pc + 3) ls (.int (if y < x then y else x) :: r) h) : qAtP X pc ls (.int y :: .int x :: r) h := by
  intro p l e R s m args below meth c D cI cB ad A H locs k0 n Q M hP hD hS lsM hl
  have go := kk p l e R s m args below meth c D cI cB ad A H locs k0 n Q M hP hD hS lsM hl
  obtain ⟨hx, hb, hml, hown, hts, hK, hA, hRO, ⟨h1, h2, h3, h4⟩, -⟩ := M
  exact va_mmin hx hb (by rw [hml]; exact hl.2.1.symm) hown (hts _ (qMT_ok _ (List.mem_of_elem_eq_true hlk))) (hts _ qw137.2.2) (hts _ qw137.2.1) (hts _ qw137.1) (by omega) (by rw [qcat_map]; omega) h3 h4 hd go
end QCELL
end
section
/-! every method's plain code is its decoded code: decided; what a method is, decided -/
def qckB (j : Nat) : Bool := qchk (qb j) (qownL.getD j 0) (qpcs (qRL.getD j [])) (qRL.getD j []) (qCL.getD j [])
def qyfB (j : Nat) : Bool := plainName (qy j).cls && (decide ((qy j).cls ≠ "java/lang/invoke/MethodHandle") && (decide ((qy j).cls ≠ "java/lang/invoke/VarHandle") && (decide ((parseMethodDescriptor (qy j).desc).map (fun d => d.parameters.length) = some (qarL.getD j 0)) && (decide (qpc j 0 = 0) && (Nat.ble (qnl j) 200 && decide ((qy j).cls = qow j))))))
theorem qck_0 : ([0, 1, 2, 3, 4, 5, 6, 7, 8, 9] : List Nat).all qckB = true := by decide +kernel
theorem qck_1 : ([10, 11, 12, 13, 14, 15, 16, 17, 18, 19] : List Nat).all qckB = true := by decide +kernel
theorem qck_2 : ([20, 21, 22, 23, 24, 25, 26, 27, 28, 29] : List Nat).all qckB = true := by decide +kernel
theorem qck_3 : ([30, 31, 32, 33, 34, 35, 36, 37, 38, 39] : List Nat).all qckB = true := by decide +kernel
theorem qck_4 : ([40, 41, 42, 43, 44, 45, 46, 47, 48, 49] : List Nat).all qckB = true := by decide +kernel
theorem qck_5 : ([50, 51, 52, 53, 54, 55, 56, 57, 58, 59] : List Nat).all qckB = true := by decide +kernel
theorem qck_6 : ([60, 61, 62, 63, 64, 65, 66, 67, 68, 69] : List Nat).all qckB = true := by decide +kernel
theorem qck_7 : ([70, 71, 72, 73, 74, 75, 76, 77, 78, 79] : List Nat).all qckB = true := by decide +kernel
theorem qck_8 : ([80, 81, 82, 83, 84, 85, 86, 87, 88, 89] : List Nat).all qckB = true := by decide +kernel
theorem qck_9 : ([90, 91, 92, 93, 94, 95, 96, 97, 98, 99] : List Nat).all qckB = true := by decide +kernel
theorem qck_10 : ([100, 101, 102, 103, 104, 105, 106, 107, 108, 109] : List Nat).all qckB = true := by decide +kernel
theorem qck_11 : ([110, 111, 112, 113, 114, 115, 116, 117, 118, 119] : List Nat).all qckB = true := by decide +kernel
theorem qck_12 : ([120, 121, 122, 123, 124, 125, 126, 127, 128, 129] : List Nat).all qckB = true := by decide +kernel
theorem qck_13 : ([130, 131, 132, 133, 134, 135, 136, 137, 138] : List Nat).all qckB = true := by decide +kernel
theorem qyf_0 : ([0, 1, 2, 3, 4, 5, 6, 7, 8, 9, 10, 11, 12, 13, 14, 15, 16, 17, 18, 19, 20, 21, 22, 23, 24, 25, 26, 27, 28, 29, 30, 31, 32, 33] : List Nat).all qyfB = true := by decide +kernel
theorem qyf_1 : ([34, 35, 36, 37, 38, 39, 40, 41, 42, 43, 44, 45, 46, 47, 48, 49, 50, 51, 52, 53, 54, 55, 56, 57, 58, 59, 60, 61, 62, 63, 64, 65, 66, 67] : List Nat).all qyfB = true := by decide +kernel
theorem qyf_2 : ([68, 69, 70, 71, 72, 73, 74, 75, 76, 77, 78, 79, 80, 81, 82, 83, 84, 85, 86, 87, 88, 89, 90, 91, 92, 93, 94, 95, 96, 97, 98, 99, 100, 101] : List Nat).all qyfB = true := by decide +kernel
theorem qyf_3 : ([102, 103, 104, 105, 106, 107, 108, 109, 110, 111, 112, 113, 114, 115, 116, 117, 118, 119, 120, 121, 122, 123, 124, 125, 126, 127, 128, 129, 130, 131, 132, 133, 134, 135] : List Nat).all qyfB = true := by decide +kernel
theorem qck : ∀ j, j < 139 → qckB j = true := by
  intro j hj
  have e : List.range 139 = ([0, 1, 2, 3, 4, 5, 6, 7, 8, 9] : List Nat) ++ ([10, 11, 12, 13, 14, 15, 16, 17, 18, 19] : List Nat) ++ ([20, 21, 22, 23, 24, 25, 26, 27, 28, 29] : List Nat) ++ ([30, 31, 32, 33, 34, 35, 36, 37, 38, 39] : List Nat) ++ ([40, 41, 42, 43, 44, 45, 46, 47, 48, 49] : List Nat) ++ ([50, 51, 52, 53, 54, 55, 56, 57, 58, 59] : List Nat) ++ ([60, 61, 62, 63, 64, 65, 66, 67, 68, 69] : List Nat) ++ ([70, 71, 72, 73, 74, 75, 76, 77, 78, 79] : List Nat) ++ ([80, 81, 82, 83, 84, 85, 86, 87, 88, 89] : List Nat) ++ ([90, 91, 92, 93, 94, 95, 96, 97, 98, 99] : List Nat) ++ ([100, 101, 102, 103, 104, 105, 106, 107, 108, 109] : List Nat) ++ ([110, 111, 112, 113, 114, 115, 116, 117, 118, 119] : List Nat) ++ ([120, 121, 122, 123, 124, 125, 126, 127, 128, 129] : List Nat) ++ ([130, 131, 132, 133, 134, 135, 136, 137, 138] : List Nat) := by decide +kernel
  have hm := List.mem_range.mpr hj
  rw [e] at hm
  simp only [List.mem_append] at hm
  rcases hm with ((((((((((((h | h) | h) | h) | h) | h) | h) | h) | h) | h) | h) | h) | h) | h
  all_goals first | exact List.all_eq_true.mp qck_0 j h | exact List.all_eq_true.mp qck_1 j h | exact List.all_eq_true.mp qck_2 j h | exact List.all_eq_true.mp qck_3 j h | exact List.all_eq_true.mp qck_4 j h | exact List.all_eq_true.mp qck_5 j h | exact List.all_eq_true.mp qck_6 j h | exact List.all_eq_true.mp qck_7 j h | exact List.all_eq_true.mp qck_8 j h | exact List.all_eq_true.mp qck_9 j h | exact List.all_eq_true.mp qck_10 j h | exact List.all_eq_true.mp qck_11 j h | exact List.all_eq_true.mp qck_12 j h | exact List.all_eq_true.mp qck_13 j h
theorem qyf : ∀ j, j < 136 → qyfB j = true := by
  intro j hj
  have e : List.range 136 = ([0, 1, 2, 3, 4, 5, 6, 7, 8, 9, 10, 11, 12, 13, 14, 15, 16, 17, 18, 19, 20, 21, 22, 23, 24, 25, 26, 27, 28, 29, 30, 31, 32, 33] : List Nat) ++ ([34, 35, 36, 37, 38, 39, 40, 41, 42, 43, 44, 45, 46, 47, 48, 49, 50, 51, 52, 53, 54, 55, 56, 57, 58, 59, 60, 61, 62, 63, 64, 65, 66, 67] : List Nat) ++ ([68, 69, 70, 71, 72, 73, 74, 75, 76, 77, 78, 79, 80, 81, 82, 83, 84, 85, 86, 87, 88, 89, 90, 91, 92, 93, 94, 95, 96, 97, 98, 99, 100, 101] : List Nat) ++ ([102, 103, 104, 105, 106, 107, 108, 109, 110, 111, 112, 113, 114, 115, 116, 117, 118, 119, 120, 121, 122, 123, 124, 125, 126, 127, 128, 129, 130, 131, 132, 133, 134, 135] : List Nat) := by decide +kernel
  have hm := List.mem_range.mpr hj
  rw [e] at hm
  simp only [List.mem_append] at hm
  rcases hm with ((h | h) | h) | h
  all_goals first | exact List.all_eq_true.mp qyf_0 j h | exact List.all_eq_true.mp qyf_1 j h | exact List.all_eq_true.mp qyf_2 j h | exact List.all_eq_true.mp qyf_3 j h
end
section
def qwP (j : Nat) : Prop := qWd (qy j) (qb j) (qnl j) (qrt j) (qstL.getD j false)
theorem qwd_0 : ∀ j ∈ ([0, 1, 2, 3, 4, 5, 6, 7, 8, 9, 10, 11, 12, 13, 14, 15, 16, 17, 18, 19, 20, 21, 22, 23, 24, 25, 26, 27, 28, 29, 30, 31, 32, 33] : List Nat), qwP j := List.forall_mem_cons.mpr ⟨qw0, List.forall_mem_cons.mpr ⟨qw1, List.forall_mem_cons.mpr ⟨qw2, List.forall_mem_cons.mpr ⟨qw3, List.forall_mem_cons.mpr ⟨qw4, List.forall_mem_cons.mpr ⟨qw5, List.forall_mem_cons.mpr ⟨qw6, List.forall_mem_cons.mpr ⟨qw7, List.forall_mem_cons.mpr ⟨qw8, List.forall_mem_cons.mpr ⟨qw9, List.forall_mem_cons.mpr ⟨qw10, List.forall_mem_cons.mpr ⟨qw11, List.forall_mem_cons.mpr ⟨qw12, List.forall_mem_cons.mpr ⟨qw13, List.forall_mem_cons.mpr ⟨qw14, List.forall_mem_cons.mpr ⟨qw15, List.forall_mem_cons.mpr ⟨qw16, List.forall_mem_cons.mpr ⟨qw17, List.forall_mem_cons.mpr ⟨qw18, List.forall_mem_cons.mpr ⟨qw19, List.forall_mem_cons.mpr ⟨qw20, List.forall_mem_cons.mpr ⟨qw21, List.forall_mem_cons.mpr ⟨qw22, List.forall_mem_cons.mpr ⟨qw23, List.forall_mem_cons.mpr ⟨qw24, List.forall_mem_cons.mpr ⟨qw25, List.forall_mem_cons.mpr ⟨qw26, List.forall_mem_cons.mpr ⟨qw27, List.forall_mem_cons.mpr ⟨qw28, List.forall_mem_cons.mpr ⟨qw29, List.forall_mem_cons.mpr ⟨qw30, List.forall_mem_cons.mpr ⟨qw31, List.forall_mem_cons.mpr ⟨qw32, List.forall_mem_cons.mpr ⟨qw33, fun _ h => absurd h List.not_mem_nil⟩⟩⟩⟩⟩⟩⟩⟩⟩⟩⟩⟩⟩⟩⟩⟩⟩⟩⟩⟩⟩⟩⟩⟩⟩⟩⟩⟩⟩⟩⟩⟩⟩⟩
theorem qwd_1 : ∀ j ∈ ([34, 35, 36, 37, 38, 39, 40, 41, 42, 43, 44, 45, 46, 47, 48, 49, 50, 51, 52, 53, 54, 55, 56, 57, 58, 59, 60, 61, 62, 63, 64, 65, 66, 67] : List Nat), qwP j := List.forall_mem_cons.mpr ⟨qw34, List.forall_mem_cons.mpr ⟨qw35, List.forall_mem_cons.mpr ⟨qw36, List.forall_mem_cons.mpr ⟨qw37, List.forall_mem_cons.mpr ⟨qw38, List.forall_mem_cons.mpr ⟨qw39, List.forall_mem_cons.mpr ⟨qw40, List.forall_mem_cons.mpr ⟨qw41, List.forall_mem_cons.mpr ⟨qw42, List.forall_mem_cons.mpr ⟨qw43, List.forall_mem_cons.mpr ⟨qw44, List.forall_mem_cons.mpr ⟨qw45, List.forall_mem_cons.mpr ⟨qw46, List.forall_mem_cons.mpr ⟨qw47, List.forall_mem_cons.mpr ⟨qw48, List.forall_mem_cons.mpr ⟨qw49, List.forall_mem_cons.mpr ⟨qw50, List.forall_mem_cons.mpr ⟨qw51, List.forall_mem_cons.mpr ⟨qw52, List.forall_mem_cons.mpr ⟨qw53, List.forall_mem_cons.mpr ⟨qw54, List.forall_mem_cons.mpr ⟨qw55, List.forall_mem_cons.mpr ⟨qw56, List.forall_mem_cons.mpr ⟨qw57, List.forall_mem_cons.mpr ⟨qw58, List.forall_mem_cons.mpr ⟨qw59, List.forall_mem_cons.mpr ⟨qw60, List.forall_mem_cons.mpr ⟨qw61, List.forall_mem_cons.mpr ⟨qw62, List.forall_mem_cons.mpr ⟨qw63, List.forall_mem_cons.mpr ⟨qw64, List.forall_mem_cons.mpr ⟨qw65, List.forall_mem_cons.mpr ⟨qw66, List.forall_mem_cons.mpr ⟨qw67, fun _ h => absurd h List.not_mem_nil⟩⟩⟩⟩⟩⟩⟩⟩⟩⟩⟩⟩⟩⟩⟩⟩⟩⟩⟩⟩⟩⟩⟩⟩⟩⟩⟩⟩⟩⟩⟩⟩⟩⟩
theorem qwd_2 : ∀ j ∈ ([68, 69, 70, 71, 72, 73, 74, 75, 76, 77, 78, 79, 80, 81, 82, 83, 84, 85, 86, 87, 88, 89, 90, 91, 92, 93, 94, 95, 96, 97, 98, 99, 100, 101] : List Nat), qwP j := List.forall_mem_cons.mpr ⟨qw68, List.forall_mem_cons.mpr ⟨qw69, List.forall_mem_cons.mpr ⟨qw70, List.forall_mem_cons.mpr ⟨qw71, List.forall_mem_cons.mpr ⟨qw72, List.forall_mem_cons.mpr ⟨qw73, List.forall_mem_cons.mpr ⟨qw74, List.forall_mem_cons.mpr ⟨qw75, List.forall_mem_cons.mpr ⟨qw76, List.forall_mem_cons.mpr ⟨qw77, List.forall_mem_cons.mpr ⟨qw78, List.forall_mem_cons.mpr ⟨qw79, List.forall_mem_cons.mpr ⟨qw80, List.forall_mem_cons.mpr ⟨qw81, List.forall_mem_cons.mpr ⟨qw82, List.forall_mem_cons.mpr ⟨qw83, List.forall_mem_cons.mpr ⟨qw84, List.forall_mem_cons.mpr ⟨qw85, List.forall_mem_cons.mpr ⟨qw86, List.forall_mem_cons.mpr ⟨qw87, List.forall_mem_cons.mpr ⟨qw88, List.forall_mem_cons.mpr ⟨qw89, List.forall_mem_cons.mpr ⟨qw90, List.forall_mem_cons.mpr ⟨qw91, List.forall_mem_cons.mpr ⟨qw92, List.forall_mem_cons.mpr ⟨qw93, List.forall_mem_cons.mpr ⟨qw94, List.forall_mem_cons.mpr ⟨qw95, List.forall_mem_cons.mpr ⟨qw96, List.forall_mem_cons.mpr ⟨qw97, List.forall_mem_cons.mpr ⟨qw98, List.forall_mem_cons.mpr ⟨qw99, List.forall_mem_cons.mpr ⟨qw100, List.forall_mem_cons.mpr ⟨qw101, fun _ h => absurd h List.not_mem_nil⟩⟩⟩⟩⟩⟩⟩⟩⟩⟩⟩⟩⟩⟩⟩⟩⟩⟩⟩⟩⟩⟩⟩⟩⟩⟩⟩⟩⟩⟩⟩⟩⟩⟩
theorem qwd_3 : ∀ j ∈ ([102, 103, 104, 105, 106, 107, 108, 109, 110, 111, 112, 113, 114, 115, 116, 117, 118, 119, 120, 121, 122, 123, 124, 125, 126, 127, 128, 129, 130, 131, 132, 133, 134, 135] : List Nat), qwP j := List.forall_mem_cons.mpr ⟨qw102, List.forall_mem_cons.mpr ⟨qw103, List.forall_mem_cons.mpr ⟨qw104, List.forall_mem_cons.mpr ⟨qw105, List.forall_mem_cons.mpr ⟨qw106, List.forall_mem_cons.mpr ⟨qw107, List.forall_mem_cons.mpr ⟨qw108, List.forall_mem_cons.mpr ⟨qw109, List.forall_mem_cons.mpr ⟨qw110, List.forall_mem_cons.mpr ⟨qw111, List.forall_mem_cons.mpr ⟨qw112, List.forall_mem_cons.mpr ⟨qw113, List.forall_mem_cons.mpr ⟨qw114, List.forall_mem_cons.mpr ⟨qw115, List.forall_mem_cons.mpr ⟨qw116, List.forall_mem_cons.mpr ⟨qw117, List.forall_mem_cons.mpr ⟨qw118, List.forall_mem_cons.mpr ⟨qw119, List.forall_mem_cons.mpr ⟨qw120, List.forall_mem_cons.mpr ⟨qw121, List.forall_mem_cons.mpr ⟨qw122, List.forall_mem_cons.mpr ⟨qw123, List.forall_mem_cons.mpr ⟨qw124, List.forall_mem_cons.mpr ⟨qw125, List.forall_mem_cons.mpr ⟨qw126, List.forall_mem_cons.mpr ⟨qw127, List.forall_mem_cons.mpr ⟨qw128, List.forall_mem_cons.mpr ⟨qw129, List.forall_mem_cons.mpr ⟨qw130, List.forall_mem_cons.mpr ⟨qw131, List.forall_mem_cons.mpr ⟨qw132, List.forall_mem_cons.mpr ⟨qw133, List.forall_mem_cons.mpr ⟨qw134, List.forall_mem_cons.mpr ⟨qw135, fun _ h => absurd h List.not_mem_nil⟩⟩⟩⟩⟩⟩⟩⟩⟩⟩⟩⟩⟩⟩⟩⟩⟩⟩⟩⟩⟩⟩⟩⟩⟩⟩⟩⟩⟩⟩⟩⟩⟩⟩
theorem qwd : ∀ j, j < 136 → qwP j := by
  intro j hj
  have e : List.range 136 = ([0, 1, 2, 3, 4, 5, 6, 7, 8, 9, 10, 11, 12, 13, 14, 15, 16, 17, 18, 19, 20, 21, 22, 23, 24, 25, 26, 27, 28, 29, 30, 31, 32, 33] : List Nat) ++ ([34, 35, 36, 37, 38, 39, 40, 41, 42, 43, 44, 45, 46, 47, 48, 49, 50, 51, 52, 53, 54, 55, 56, 57, 58, 59, 60, 61, 62, 63, 64, 65, 66, 67] : List Nat) ++ ([68, 69, 70, 71, 72, 73, 74, 75, 76, 77, 78, 79, 80, 81, 82, 83, 84, 85, 86, 87, 88, 89, 90, 91, 92, 93, 94, 95, 96, 97, 98, 99, 100, 101] : List Nat) ++ ([102, 103, 104, 105, 106, 107, 108, 109, 110, 111, 112, 113, 114, 115, 116, 117, 118, 119, 120, 121, 122, 123, 124, 125, 126, 127, 128, 129, 130, 131, 132, 133, 134, 135] : List Nat) := by decide +kernel
  have hm := List.mem_range.mpr hj
  rw [e] at hm
  simp only [List.mem_append] at hm
  rcases hm with ((h | h) | h) | h
  all_goals first | exact qwd_0 j h | exact qwd_1 j h | exact qwd_2 j h | exact qwd_3 j h
/-! ## the code's rows, read back -/
theorem qnth_map {α β : Type} (f : α → β) : ∀ (l : List α) (i : Nat), qnth (l.map f) i = (qnth l i).map f
  | [], _ => rfl
  | _ :: _, 0 => rfl
  | _ :: l, i + 1 => qnth_map f l i
theorem qnth_getD {α : Type} (d : α) : ∀ (l : List α) (i : Nat) (a : α), qnth l i = some a → l.getD i d = a
  | _ :: _, 0, _, h => by cases h; rfl
  | _ :: l, i + 1, a, h => qnth_getD d l i a h
theorem qchk_at {b : ByteArray} {own : Nat} {pcs : List Nat} : ∀ (R : List (Nat × Instr × Nat)) (C : List Instr), qchk b own pcs R C = true → ∀ (i : Nat) (a : Instr), qnth C i = some a → ∃ (pc : Nat) (ins : Instr) (len : Nat), qnth R i = some (pc, ins, len) ∧ decode b pc = .ok (ins, len) ∧ qmatch own pcs pc len ins a = true ∧ ((∃ q, qnth R (i + 1) = some q ∧ q.1 = pc + len) ∨ qend a = true)
  | [], [], _, i, a, h => by cases h
  | [], _ :: _, hq, _, _, _ => by cases hq
  | _ :: _, [], hq, _, _, _ => by cases hq
  | (pc, ins, len) :: R, a0 :: C, hq, 0, a, h => by
    cases h
    unfold qchk at hq
    simp only [Bool.and_eq_true, decide_eq_true_eq] at hq
    obtain ⟨h1, h2, h3, h4⟩ := hq
    refine ⟨pc, ins, len, rfl, h1, h3, ?_⟩
    cases R with
    | nil => exact Or.inr h2
    | cons q R => exact Or.inl ⟨q, rfl, eq_of_beq h2⟩
  | (pc, ins, len) :: R, a0 :: C, hq, i + 1, a, h => by
    unfold qchk at hq
    simp only [Bool.and_eq_true] at hq
    obtain ⟨h1, h2, h3, h4⟩ := hq
    exact qchk_at R C h4 i a h
theorem qcode {j i : Nat} {a : Instr} (hj : j < 139) (h : qnth (qCL.getD j []) i = some a) : ∃ (ins : Instr) (len : Nat), decode (qb j) (qpc j i) = .ok (ins, len) ∧ qmatch (qownL.getD j 0) (qpcs (qRL.getD j [])) (qpc j i) len ins a = true ∧ (qpc j (i + 1) = qpc j i + len ∨ qend a = true) := by
  obtain ⟨pc, ins, len, h1, h2, h3, h4⟩ := qchk_at _ _ (qck j hj) i a h
  have e : qpc j i = pc := by
    unfold qpc qpcs
    refine qnth_getD 0 _ i pc ?_
    rw [qnth_map, h1]
    rfl
  refine ⟨ins, len, by rw [e]; exact h2, by rw [e]; exact h3, ?_⟩
  rcases h4 with ⟨q, hq, e2⟩ | h4
  · refine Or.inl ?_
    rw [e, ← e2]
    unfold qpc qpcs
    refine qnth_getD 0 _ (i + 1) q.1 ?_
    rw [qnth_map, hq]
    rfl
  · exact Or.inr h4
theorem qtg_ok {R : List (Nat × Instr × Nat)} {pc : Nat} {off t : Int} (h : qtg (qpcs R) pc off t = true) : (pc : Int) + off = (((qpcs R).getD t.toNat 0 : Nat) : Int) := by
  unfold qtg at h
  split at h
  · rename_i g hg
    rw [List.getD_eq_getElem?_getD, hg]
    exact of_decide_eq_true h
  · cases h
theorem qone_ok {a ins : Instr} {len : Nat} (h : (qone a && (decide (ins = a) && len == 1)) = true) : ins = a ∧ len = 1 := by
  simp only [Bool.and_eq_true, decide_eq_true_eq] at h
  exact ⟨h.2.1, eq_of_beq h.2.2⟩
theorem qm_iload {own pc len k : Nat} {pcs : List Nat} {ins : Instr} (h : qmatch own pcs pc len ins (.iload k) = true) : (∃ f : Fin 4, f.val = k ∧ ins = .iload_n f ∧ len = 1) ∨ (ins = .iload k ∧ len = 2) := by
  simp only [qmatch] at h
  split at h
  · rename_i f
    simp only [Bool.and_eq_true] at h
    exact Or.inl ⟨f, eq_of_beq h.1, rfl, eq_of_beq h.2⟩
  · simp only [Bool.and_eq_true] at h
    obtain rfl := eq_of_beq h.1
    exact Or.inr ⟨rfl, eq_of_beq h.2⟩
  · cases h
theorem qm_lload {own pc len k : Nat} {pcs : List Nat} {ins : Instr} (h : qmatch own pcs pc len ins (.lload k) = true) : (∃ f : Fin 4, f.val = k ∧ ins = .lload_n f ∧ len = 1) ∨ (ins = .lload k ∧ len = 2) := by
  simp only [qmatch] at h
  split at h
  · rename_i f
    simp only [Bool.and_eq_true] at h
    exact Or.inl ⟨f, eq_of_beq h.1, rfl, eq_of_beq h.2⟩
  · simp only [Bool.and_eq_true] at h
    obtain rfl := eq_of_beq h.1
    exact Or.inr ⟨rfl, eq_of_beq h.2⟩
  · cases h
theorem qm_aload {own pc len k : Nat} {pcs : List Nat} {ins : Instr} (h : qmatch own pcs pc len ins (.aload k) = true) : (∃ f : Fin 4, f.val = k ∧ ins = .aload_n f ∧ len = 1) ∨ (ins = .aload k ∧ len = 2) := by
  simp only [qmatch] at h
  split at h
  · rename_i f
    simp only [Bool.and_eq_true] at h
    exact Or.inl ⟨f, eq_of_beq h.1, rfl, eq_of_beq h.2⟩
  · simp only [Bool.and_eq_true] at h
    obtain rfl := eq_of_beq h.1
    exact Or.inr ⟨rfl, eq_of_beq h.2⟩
  · cases h
theorem qm_istore {own pc len k : Nat} {pcs : List Nat} {ins : Instr} (h : qmatch own pcs pc len ins (.istore k) = true) : (∃ f : Fin 4, f.val = k ∧ ins = .istore_n f ∧ len = 1) ∨ (ins = .istore k ∧ len = 2) := by
  simp only [qmatch] at h
  split at h
  · rename_i f
    simp only [Bool.and_eq_true] at h
    exact Or.inl ⟨f, eq_of_beq h.1, rfl, eq_of_beq h.2⟩
  · simp only [Bool.and_eq_true] at h
    obtain rfl := eq_of_beq h.1
    exact Or.inr ⟨rfl, eq_of_beq h.2⟩
  · cases h
theorem qm_lstore {own pc len k : Nat} {pcs : List Nat} {ins : Instr} (h : qmatch own pcs pc len ins (.lstore k) = true) : (∃ f : Fin 4, f.val = k ∧ ins = .lstore_n f ∧ len = 1) ∨ (ins = .lstore k ∧ len = 2) := by
  simp only [qmatch] at h
  split at h
  · rename_i f
    simp only [Bool.and_eq_true] at h
    exact Or.inl ⟨f, eq_of_beq h.1, rfl, eq_of_beq h.2⟩
  · simp only [Bool.and_eq_true] at h
    obtain rfl := eq_of_beq h.1
    exact Or.inr ⟨rfl, eq_of_beq h.2⟩
  · cases h
theorem qm_astore {own pc len k : Nat} {pcs : List Nat} {ins : Instr} (h : qmatch own pcs pc len ins (.astore k) = true) : (∃ f : Fin 4, f.val = k ∧ ins = .astore_n f ∧ len = 1) ∨ (ins = .astore k ∧ len = 2) := by
  simp only [qmatch] at h
  split at h
  · rename_i f
    simp only [Bool.and_eq_true] at h
    exact Or.inl ⟨f, eq_of_beq h.1, rfl, eq_of_beq h.2⟩
  · simp only [Bool.and_eq_true] at h
    obtain rfl := eq_of_beq h.1
    exact Or.inr ⟨rfl, eq_of_beq h.2⟩
  · cases h
theorem qm_iinc {own pc len k : Nat} {v : Int} {pcs : List Nat} {ins : Instr} (h : qmatch own pcs pc len ins (.iinc k v) = true) : ins = .iinc k v ∧ len = 3 := by
  simp only [qmatch] at h
  split at h
  · simp only [Bool.and_eq_true, decide_eq_true_eq] at h
    obtain rfl := eq_of_beq h.1
    obtain rfl := h.2.1
    exact ⟨rfl, eq_of_beq h.2.2⟩
  · cases h
theorem qm_iconst {own pc len : Nat} {v : Int} {pcs : List Nat} {ins : Instr} (h : qmatch own pcs pc len ins (.iconst v) = true) : (ins = .iconst v ∧ len = 1) ∨ (∃ w, ins = .bipush w ∧ len = 2 ∧ (Int8.ofInt w).toInt32 = Int32.ofInt v) ∨ (∃ w, ins = .sipush w ∧ len = 3 ∧ (Int16.ofInt w).toInt32 = Int32.ofInt v) ∨ (∃ k, ins = .ldc k ∧ len = 2 ∧ qIT.elem (own, k, v) = true) ∨ (∃ k, ins = .ldc_w k ∧ len = 3 ∧ qIT.elem (own, k, v) = true) := by
  simp only [qmatch] at h
  split at h
  · simp only [Bool.and_eq_true, decide_eq_true_eq] at h
    obtain rfl := h.1
    exact Or.inl ⟨rfl, eq_of_beq h.2⟩
  · simp only [Bool.and_eq_true, decide_eq_true_eq] at h
    exact Or.inr (Or.inl ⟨_, rfl, eq_of_beq h.2, h.1⟩)
  · simp only [Bool.and_eq_true, decide_eq_true_eq] at h
    exact Or.inr (Or.inr (Or.inl ⟨_, rfl, eq_of_beq h.2, h.1⟩))
  · simp only [Bool.and_eq_true] at h
    exact Or.inr (Or.inr (Or.inr (Or.inl ⟨_, rfl, eq_of_beq h.2, h.1⟩)))
  · simp only [Bool.and_eq_true] at h
    exact Or.inr (Or.inr (Or.inr (Or.inr ⟨_, rfl, eq_of_beq h.2, h.1⟩)))
  · cases h
theorem qm_jsr {own pc len : Nat} {v : Int} {pcs : List Nat} {ins : Instr} (h : qmatch own pcs pc len ins (.jsr v) = true) : (∃ w : Fin 2, ins = .lconst w ∧ len = 1 ∧ Int64.ofNat w = Int64.ofInt v) ∨ (∃ k, ins = .ldc2_w k ∧ len = 3 ∧ qJT.elem (own, k, v) = true) := by
  simp only [qmatch] at h
  split at h
  · simp only [Bool.and_eq_true, decide_eq_true_eq] at h
    exact Or.inl ⟨_, rfl, eq_of_beq h.2, h.1⟩
  · simp only [Bool.and_eq_true] at h
    exact Or.inr ⟨_, rfl, eq_of_beq h.2, h.1⟩
  · cases h
theorem qm_ldc {own pc len k : Nat} {pcs : List Nat} {ins : Instr} (h : qmatch own pcs pc len ins (.ldc k) = true) : ins = .ldc 23 ∧ own = 2 ∧ len = 2 := by
  simp only [qmatch] at h
  split at h
  · simp only [Bool.and_eq_true] at h
    obtain rfl := eq_of_beq h.2.1
    exact ⟨rfl, eq_of_beq h.1, eq_of_beq h.2.2⟩
  · cases h
theorem qm_getfield {own pc len f : Nat} {pcs : List Nat} {ins : Instr} (h : qmatch own pcs pc len ins (.getfield f) = true) : ∃ k, ins = .getfield k ∧ len = 3 ∧ qlk own k f = true := by
  simp only [qmatch] at h
  split at h
  · rw [Bool.and_eq_true] at h
    exact ⟨_, rfl, eq_of_beq h.2, h.1⟩
  · cases h
theorem qm_putfield {own pc len f : Nat} {pcs : List Nat} {ins : Instr} (h : qmatch own pcs pc len ins (.putfield f) = true) : ∃ k, ins = .putfield k ∧ len = 3 ∧ qlk own k f = true := by
  simp only [qmatch] at h
  split at h
  · rw [Bool.and_eq_true] at h
    exact ⟨_, rfl, eq_of_beq h.2, h.1⟩
  · cases h
theorem qm_getstatic {own pc len f : Nat} {pcs : List Nat} {ins : Instr} (h : qmatch own pcs pc len ins (.getstatic f) = true) : ∃ k, ins = .getstatic k ∧ len = 3 ∧ qST.elem (own, k) = true := by
  simp only [qmatch] at h
  split at h
  · rw [Bool.and_eq_true] at h
    exact ⟨_, rfl, eq_of_beq h.2, h.1⟩
  · cases h
theorem qm_goto {own pc len : Nat} {t : Int} {pcs : List Nat} {ins : Instr} (h : qmatch own pcs pc len ins (.goto t) = true) : ∃ o, ins = .goto o ∧ len = 3 ∧ qtg pcs pc o t = true := by
  simp only [qmatch] at h
  split at h
  · rw [Bool.and_eq_true] at h
    exact ⟨_, rfl, eq_of_beq h.2, h.1⟩
  · cases h
theorem qm_ifCond {own pc len : Nat} {c : ClassFile.Cond} {t : Int} {pcs : List Nat} {ins : Instr} (h : qmatch own pcs pc len ins (.ifCond c t) = true) : ∃ o, ins = .ifCond c o ∧ len = 3 ∧ qtg pcs pc o t = true := by
  simp only [qmatch] at h
  split at h
  · simp only [Bool.and_eq_true, decide_eq_true_eq] at h
    obtain rfl := h.1
    exact ⟨_, rfl, eq_of_beq h.2.2, h.2.1⟩
  · cases h
theorem qm_if_icmp {own pc len : Nat} {c : ClassFile.Cond} {t : Int} {pcs : List Nat} {ins : Instr} (h : qmatch own pcs pc len ins (.if_icmp c t) = true) : ∃ o, ins = .if_icmp c o ∧ len = 3 ∧ qtg pcs pc o t = true := by
  simp only [qmatch] at h
  split at h
  · simp only [Bool.and_eq_true, decide_eq_true_eq] at h
    obtain rfl := h.1
    exact ⟨_, rfl, eq_of_beq h.2.2, h.2.1⟩
  · cases h
theorem qm_fadd {own pc len : Nat} {pcs : List Nat} {ins : Instr} (h : qmatch own pcs pc len ins .fadd = true) : ∃ k, ins = .invokestatic k ∧ len = 3 ∧ qMT.elem (own, k, 136) = true := by
  simp only [qmatch] at h
  split at h
  · rw [Bool.and_eq_true] at h
    exact ⟨_, rfl, eq_of_beq h.2, h.1⟩
  · cases h
theorem qm_fsub {own pc len : Nat} {pcs : List Nat} {ins : Instr} (h : qmatch own pcs pc len ins .fsub = true) : ∃ k, ins = .invokestatic k ∧ len = 3 ∧ qMT.elem (own, k, 137) = true := by
  simp only [qmatch] at h
  split at h
  · rw [Bool.and_eq_true] at h
    exact ⟨_, rfl, eq_of_beq h.2, h.1⟩
  · cases h
theorem qm_static {own pc len f : Nat} {pcs : List Nat} {ins : Instr} (h : qmatch own pcs pc len ins (.invokestatic f) = true) : ∃ k, ins = .invokestatic k ∧ len = 3 ∧ qMT.elem (own, k, f / 16) = true ∧ f / 16 < 136 ∧ qstL.getD (f / 16) false = true ∧ qarL.getD (f / 16) 0 = f % 16 := by
  simp only [qmatch] at h
  split at h
  · simp only [Bool.and_eq_true] at h
    obtain ⟨h1, h2, h3, h4, h5⟩ := h
    exact ⟨_, rfl, eq_of_beq h5, h1, Nat.le_of_ble_eq_true h2, eq_of_beq h3, eq_of_beq h4⟩
  · cases h
theorem qm_virtual {own pc len f : Nat} {pcs : List Nat} {ins : Instr} (h : qmatch own pcs pc len ins (.invokevirtual f) = true) : ∃ k, ins = .invokevirtual k ∧ len = 3 ∧ qMT.elem (own, k, f / 256) = true ∧ f / 256 < 136 ∧ qstL.getD (f / 256) true = false ∧ qarL.getD (f / 256) 0 + 1 = f / 16 % 16 ∧ (qyL.getD (f / 256) yL_law).cls = (vwCl.getD (f % 16) (RJ0, TX0, 0)).1 := by
  simp only [qmatch] at h
  split at h
  · simp only [Bool.and_eq_true, decide_eq_true_eq] at h
    obtain ⟨h1, h2, h3, h4, h5, h6⟩ := h
    exact ⟨_, rfl, eq_of_beq h6, h1, Nat.le_of_ble_eq_true h2, eq_of_beq h3, eq_of_beq h4, h5⟩
  · cases h
/-! ## the shapes, read back -/
theorem eI_ok {st : List Value} {f : Int32 → List Value → Prop} (h : eI st f) : ∃ x r, st = .int x :: r ∧ f x r := by
  unfold eI at h
  split at h
  · exact ⟨_, _, rfl, h⟩
  · exact h.elim
theorem eII_ok {st : List Value} {f : Int32 → Int32 → List Value → Prop} (h : eII st f) : ∃ y x r, st = .int y :: .int x :: r ∧ f y x r := by
  unfold eII at h
  split at h
  · exact ⟨_, _, _, rfl, h⟩
  · exact h.elim
theorem eL_ok {st : List Value} {f : Int64 → List Value → Prop} (h : eL st f) : ∃ x r, st = .long x :: r ∧ f x r := by
  unfold eL at h
  split at h
  · exact ⟨_, _, rfl, h⟩
  · exact h.elim
theorem eLL_ok {st : List Value} {f : Int64 → Int64 → List Value → Prop} (h : eLL st f) : ∃ y x r, st = .long y :: .long x :: r ∧ f y x r := by
  unfold eLL at h
  split at h
  · exact ⟨_, _, _, rfl, h⟩
  · exact h.elim
theorem eR_ok {st : List Value} {f : Nat → List Value → Prop} (h : eR st f) : ∃ x r, st = .ref x :: r ∧ f x r := by
  unfold eR at h
  split at h
  · exact ⟨_, _, rfl, h⟩
  · exact h.elim
theorem eIR_ok {st : List Value} {f : Int32 → Nat → List Value → Prop} (h : eIR st f) : ∃ i x r, st = .int i :: .ref x :: r ∧ f i x r := by
  unfold eIR at h
  split at h
  · exact ⟨_, _, _, rfl, h⟩
  · exact h.elim
theorem eIIR_ok {st : List Value} {f : Int32 → Int32 → Nat → List Value → Prop} (h : eIIR st f) : ∃ v i x r, st = .int v :: .int i :: .ref x :: r ∧ f v i x r := by
  unfold eIIR at h
  split at h
  · exact ⟨_, _, _, _, rfl, h⟩
  · exact h.elim
theorem eVR_ok {st : List Value} {f : Value → Nat → List Value → Prop} (h : eVR st f) : ∃ v x r, st = v :: .ref x :: r ∧ f v x r := by
  unfold eVR at h
  split at h
  · exact ⟨_, _, _, rfl, h⟩
  · exact h.elim
theorem eo_ok {b : Bool} {f : Prop} (h : eo b f) : b = true ∧ f := by
  cases b with
  | true => exact ⟨rfl, h⟩
  | false => exact h.elim
theorem eV_ok {st : List Value} {f : Value → List Value → Prop} (h : eV st f) : ∃ v r, st = v :: r ∧ v.category = 1 ∧ f v r := by
  cases st with
  | nil => exact h.elim
  | cons v r =>
    simp only [eV] at h
    cases hc : (v.category == 1) with
    | true => rw [hc] at h; exact ⟨v, r, rfl, eq_of_beq hc, h⟩
    | false => rw [hc] at h; exact h.elim
theorem eVV_ok {st : List Value} {f : Value → Value → List Value → Prop} (h : eVV st f) : ∃ v w r, st = v :: w :: r ∧ v.category = 1 ∧ w.category = 1 ∧ f v w r := by
  cases st with
  | nil => exact h.elim
  | cons v r =>
    cases r with
    | nil => exact h.elim
    | cons w r =>
      simp only [eVV] at h
      cases hc : (v.category == 1 && w.category == 1) with
      | true =>
        rw [hc] at h
        rw [Bool.and_eq_true] at hc
        exact ⟨v, w, r, rfl, eq_of_beq hc.1, eq_of_beq hc.2, h⟩
      | false => rw [hc] at h; exact h.elim
theorem eN_ok {st : List Value} {f : Prop} (h : eN st f) : st = [] ∧ f := by
  cases st with
  | nil => exact ⟨rfl, h⟩
  | cons v r => exact h.elim
theorem lI_ok {ls : qL} {k : Nat} {f : Int32 → Prop} (h : lI ls k f) : ∃ x, ls.getD k none = some (.int x) ∧ f x := by
  unfold lI at h
  split at h
  · rename_i x hx
    exact ⟨x, hx, h⟩
  · exact h.elim
theorem lL_ok {ls : qL} {k : Nat} {f : Int64 → Prop} (h : lL ls k f) : ∃ x, ls.getD k none = some (.long x) ∧ f x := by
  unfold lL at h
  split at h
  · rename_i x hx
    exact ⟨x, hx, h⟩
  · exact h.elim
theorem lR_ok {ls : qL} {k : Nat} {f : Nat → Prop} (h : lR ls k f) : ∃ x, ls.getD k none = some (.ref x) ∧ f x := by
  unfold lR at h
  split at h
  · rename_i x hx
    exact ⟨x, hx, h⟩
  · exact h.elim
end
section
/-! calls, switches -/
theorem qRO_same {ad : Nat → Nat} {A : Nat → Prop} {u U : State} (hvm : U.vm = u.vm) (hh : U.heap = u.heap) (h : qRO ad A u u.heap) : qRO ad A U U.heap := by
  have al : u.vm.Alike U.vm := by rw [hvm]; exact Vm.Alike.refl u.vm
  rw [hh]
  exact ⟨h.1.moved al, h.2.1.moved al, h.2.2.1.same hvm, fun q hq => va_Nw.same rfl hvm.symm (h.2.2.2 q hq)⟩
theorem qRO_call {ad : Nat → Nat} {A A1 : Nat → Prop} {s U : State} {H : Heap} {locs : List Loc} (h : qRO ad A s s.heap) (hS : va_S A s.heap H locs) (hA : ∀ q, A1 q → A q) (hU : U.heap = H) (hW : s.WarmedH U.vm) : qRO ad A1 U U.heap := by
  rw [hU]
  exact ⟨((h.1.kept hS.2.1).narrow hA).moved hW.alike, ((h.2.1.kept hS.2.1).narrow hA).moved hW.alike, h.2.2.1.warm hW, fun q hq => va_Nw.warmF hW (h.2.2.2 q hq)⟩
def qPc (D : va_G) (cI cB : ClassId) (ad : Nat → Nat) (sz : Nat) (As : List Value) (h : qH) : Array Value → State → Prop := va_Pc (As.map (qcv ad)) (fun U => U.heap.size = sz ∧ va_P D vwCl (qW cI cB ad h) U.heap ∧ va_K D vwCl [(cI, .int), (cB, .byte)] U ∧ va_D (fun _ => True) (qW cI cB ad h) ∧ qRO ad (va_A (qW cI cB ad h) sz) U U.heap)
theorem qPc_blind {D : va_G} {cI cB : ClassId} {ad : Nat → Nat} {sz : Nat} {As : List Value} {h : qH} : FrameBlind (qPc D cI cB ad sz As h) := by
  intro a U g mk q
  obtain ⟨q1, q2, q3, q4, q5, q6⟩ := q
  exact ⟨q1, q2, q3, va_K.moved (u := U) (U := U.calling g mk a) (Vm.Alike.refl U.vm) q4, q5, qRO_same (u := U) (U := U.calling g mk a) rfl rfl q6⟩
section QRUN
variable {p : Program} {l : Launch} {e : Env} {R : Room} {s : State} {m : MethodId} {args : Array Value} {below : List Frame} {meth : Method} {c : Code} {H : Heap} {locs : List Loc} {cells slots : Nat} {Q : State → Prop}
theorem q_run {D : va_G} {cI cB : ClassId} {ad : Nat → Nat} {A : Nat → Prop} {h : qH} {K : qK} {pc : Nat} {lsM : Array Slot} {st0 rest : List Value}
    (hr : va_Run p l e R s m args below meth c H locs cells slots 0 0 (F0 m pc lsM st0) rest (fun st oc t => (∃ (v : Option Value) (h' : qH), oc = .returned v ∧ qpl v ∧ K v h' ∧ va_P D vwCl (qW cI cB ad h') t.heap) ∧ va_F (va_A (qW cI cB ad h) H.size) st t) (va_A (qW cI cB ad h) H.size))
    (hS : va_S A s.heap H locs) (hA : ∀ q, va_A (qW cI cB ad h) H.size q → A q)
    (kk : ∀ (v : Option Value) (h' : qH) (H1 : Heap) (locs1 : List Loc), qpl v → K v h' → va_P D vwCl (qW cI cB ad h') H1 → va_S A s.heap H1 locs1 → W p l e R s m args below meth c H1 locs1 cells slots Q (F0 m (pc + 3) lsM (v.toList ++ rest))) :
    W p l e R s m args below meth c H locs cells slots Q (F0 m pc lsM st0) := by
  intro T hT X
  obtain ⟨v, st₀, t, T', L, h0, X', hL, e1, e2, ⟨⟨v', h', hv, hpl, hK, hP'⟩, hz, hk⟩, st⟩ := hr T hT X
  cases hv
  rw [h0] at hz hk
  obtain ⟨t2, a1, b1⟩ := kk v h' T'.heap (locs ++ L) hpl hK (by rw [e1]; exact hP')
    ⟨Nat.le_trans hS.1 (by rw [e1]; exact hz), fun q h1 h2 => by rw [e1, hk q (Nat.lt_of_lt_of_le h1 hS.1) (fun z => h2 (hA q z))]; exact hS.2.1 q h1 h2, fun q hq => by
      rcases List.mem_append.mp hq with h | h
      · exact hS.2.2 q h
      · exact hA _ (hL q h)⟩ T' rfl X'
  exact ⟨t2, st t2 a1, b1⟩
end QRUN
theorem qyf_ok {j : Nat} (hj : j < 136) : plainName (qy j).cls = true ∧ (qy j).cls ≠ "java/lang/invoke/MethodHandle" ∧ (qy j).cls ≠ "java/lang/invoke/VarHandle" ∧ (parseMethodDescriptor (qy j).desc).map (fun d => d.parameters.length) = some (qarL.getD j 0) ∧ qpc j 0 = 0 ∧ qnl j ≤ 200 ∧ (qy j).cls = qow j := by
  have h := qyf j hj
  unfold qyfB at h
  simp only [Bool.and_eq_true, decide_eq_true_eq] at h
  obtain ⟨h1, h2, h3, h4, h5, h6, h7⟩ := h
  exact ⟨h1, h2, h3, h4, h5, Nat.le_of_ble_eq_true h6, h7⟩
theorem qgood {w : Cond} (h : w ∈ qU) : w ∈ qU ∧ ((w.onTables && w.keeps) = true ∨ ∃ ty, w = .arrayClass ty) := ⟨h, good_of_word (qU_good w h)⟩
theorem qgoodIn {ws : List Cond} (h : ∀ w ∈ ws, w ∈ qU) : GoodIn qU ws := fun w hw => qgood (h w hw)
theorem qW_D {cI cB : ClassId} {ad : Nat → Nat} {h h' : qH} {A : Nat → Prop} (hD : va_D A (qW cI cB ad h)) : va_D A (qW cI cB ad h') := by
  have key : ∀ (h h' : qH) (k : Nat) (q : Nat × va_E), (qW cI cB ad h')[k]? = some q → ∃ q0, (qW cI cB ad h)[k]? = some q0 ∧ q0.1 = q.1 := by
    intro h h' k q hk
    have hlt : k < 31 := by
      have := (List.getElem?_eq_some_iff.mp hk).1
      unfold qW at this
      simpa using this
    rw [qW_at hlt] at hk
    cases hk
    exact ⟨_, qW_at hlt, rfl⟩
  refine ⟨fun i j p q hp hq hpq => ?_, fun k q hk => ?_⟩
  · obtain ⟨p0, hp0, e1⟩ := key h h' i p hp
    obtain ⟨q0, hq0, e2⟩ := key h h' j q hq
    exact hD.1 i j p0 q0 hp0 hq0 (by rw [e1, e2]; exact hpq)
  · obtain ⟨q0, hq0, e⟩ := key h h' k q hk
    rw [← e]
    exact hD.2 k q0 hq0
theorem qW_A {cI cB : ClassId} {ad : Nat → Nat} {h : qH} {A : Nat → Prop} {H H0 : Heap} {locs : List Loc} (hD : va_D A (qW cI cB ad h)) (hS : va_S A H0 H locs) (hA : ∀ q, H0.size ≤ q → A q) : ∀ q, va_A (qW cI cB ad h) H.size q → A q := by
  intro q hq
  rcases hq with ⟨k, e, hk⟩ | hq
  · exact hD.2 k (q, e) hk
  · exact hA q (Nat.le_trans hS.1 hq)
theorem qpl_map {v : Option Value} (h : qpl v) (ad : Nat → Nat) : v.toList.map (qcv ad) = v.toList := by
  cases v with
  | none => rfl
  | some x => cases x <;> first | rfl | exact h.elim
section QINV
variable {X : qX} {pc : Nat} {ls : qL} {rest : List Value} {h : qH}
theorem ok_static {j idx : Nat} {As : List Value} {K' : qK} (hd : decode (qb X.2.1) pc = .ok (.invokestatic idx, 3)) (hlk : qMT.elem (qownL.getD X.2.1 0, idx, j) = true) (hj : j < 136) (hst : qstL.getD j false = true) (har : qarL.getD j 0 = As.length) (hrest : (rest.map Value.category).sum ≤ 8) (hc : qCall X.1 j As h K')
    (kk : ∀ v h', K' v h' → qAtP X (pc + 3) ls (v.toList ++ rest) h') : qAtP X pc ls (As.reverse ++ rest) h := by
  intro p l e R s m args below meth c D cI cB ad A H locs k0 n Q M hP hD hS lsM hl
  have go := kk
  have M0 := M
  obtain ⟨hx, hb, hml, hown, hts, hK, hA, hRO, ⟨r1, r2, r3, r4⟩, -⟩ := M
  obtain ⟨d, hdlt, hsem⟩ := hc
  have hM := hsem l D cI cB ad H.size
  obtain ⟨y1, y2, y3, y4, y5, y6, y7⟩ := qyf_ok hj
  have hw := qwd j hj
  unfold qwP qWd at hw
  rw [hst] at hw
  obtain ⟨w1, w2, w3⟩ := hw
  have hAA := qW_A hD hS hA
  have hlink : Cond.methodLink (qow X.2.1) idx (qy j) ∈ qU := qMT_ok _ (List.mem_of_elem_eq_true hlk)
  have hG : GoodIn qU (va_wsS (qow X.2.1) idx (qy j) (Cond.code (qy j) (qb j) (qnl j) (qrt j) :: qU)) := qgoodIn (fun w hw => by
    rcases List.mem_append.mp hw with hw | hw
    · rcases List.mem_cons.mp hw with rfl | hw
      · exact hlink
      · rcases List.mem_cons.mp hw with rfl | hw
        · exact w3
        · rcases List.mem_cons.mp hw with rfl | hw
          · exact w2
          · cases hw
    · rcases List.mem_cons.mp hw with rfl | hw
      · exact w1
      · exact hw)
  have hcw := va_cwS (R := R) (mc := 0) (ms := 0) (rm := qrm d) As.length hts hG rfl rfl rfl ⟨y2, y3, by rw [y4, har]⟩ ⟨by show d + 1 ≤ R.frames; omega, by show 8 + (qnl j + 11) + 300 * d ≤ R.locals; omega⟩
  have hp : PreS s H (qPc D cI cB ad H.size As h) (As.map (qcv ad)) := ⟨qPc_blind, fun U hU hW => ⟨rfl, by rw [hU], by rw [hU]; exact hP, va_K.moved hW.alike hK, hD.weaken (fun _ _ _ _ => trivial), qRO_call hRO hS hAA hU hW⟩⟩
  have hrun := va_runS (e := e) (below := below) (meth := meth) (locs := locs) (g := F0 m pc lsM ((As.reverse ++ rest).map (qcv ad))) (rest := rest.map (qcv ad)) ⟨hx, hb, hml, hown, hts⟩ hM hcw hp rfl (by simp) hl.2.1 (by simp) (lv_room (by rw [qcat_map]; exact hrest)) hd ⟨by omega, by omega⟩
  refine q_run hrun hS hAA (fun v h' H1 locs1 hpl hK' hP1 hS1 => ?_)
  have g2 := go v h' hK' p l e R s m args below meth c D cI cB ad A H1 locs1 k0 n Q M0 hP1 (qW_D hD) hS1 lsM hl
  rw [List.map_append, qpl_map hpl] at g2
  exact g2
theorem qrv_ok {b ci : Nat} {As : List Value} (hr : qrv (.ref b :: As) ci = true) {s : State} {H : Heap} {A : Nat → Prop} {locs : List Loc} {D : va_G} {cI cB : ClassId} {ad : Nat → Nat} (hK : va_K D vwCl [(cI, .int), (cB, .byte)] s) (hP : va_P D vwCl (qW cI cB ad h) H) (hRO : qRO ad A s s.heap) (hS : va_S A s.heap H locs) : ∃ cellB : Cell, H[ad b]? = some cellB ∧ cellB.vm.isStatics = false ∧ s.vm.findClass (vwCl.getD ci (RJ0, TX0, 0)).1 = some cellB.cls := by
  cases hk : qkd b with
  | mk x y =>
    simp only [qrv, hk] at hr
    split at hr
    · rename_i c' heq
      cases heq
      have hc' := eq_of_beq hr
      subst hc'
      have hb : b < 31 := qkd_lt (c := 0) (by rw [hk]) (Or.inl rfl)
      have hc : y < 5 := qkd_c hk
      obtain ⟨hcl, -⟩ := qcl_ok hc
      have hcell := qW_at (cI := cI) (cB := cB) (ad := ad) (h := h) hb
      unfold qce at hcell
      rw [hk] at hcell
      have rr := va_recv hK hP hcl hcell
      exact rr
    · rename_i n' heq
      cases heq
      have hc' := eq_of_beq hr
      subst hc'
      have hb := qkd_97 hk
      subst hb
      exact vk_recv (N := 1) (i := 0) hRO.1 (by decide) hS
    · cases hr
theorem ok_virtual {j idx b ci : Nat} {As : List Value} {K' : qK} (hd : decode (qb X.2.1) pc = .ok (.invokevirtual idx, 3)) (hlk : qMT.elem (qownL.getD X.2.1 0, idx, j) = true) (hj : j < 136) (hst : qstL.getD j true = false) (har : qarL.getD j 0 = As.length) (hcls : (qy j).cls = (vwCl.getD ci (RJ0, TX0, 0)).1) (hrv : qrv (.ref b :: As) ci = true) (hrest : (rest.map Value.category).sum ≤ 8) (hc : qCall X.1 j (.ref b :: As) h K')
    (kk : ∀ v h', K' v h' → qAtP X (pc + 3) ls (v.toList ++ rest) h') : qAtP X pc ls ((Value.ref b :: As).reverse ++ rest) h := by
  intro p l e R s m args below meth c D cI cB ad A H locs k0 n Q M hP hD hS lsM hl
  have go := kk
  have M0 := M
  obtain ⟨hx, hb, hml, hown, hts, hK, hA, hRO, ⟨r1, r2, r3, r4⟩, -⟩ := M
  obtain ⟨d, hdlt, hsem⟩ := hc
  have hM := hsem l D cI cB ad H.size
  obtain ⟨y1, y2, y3, y4, y5, y6, y7⟩ := qyf_ok hj
  have hw := qwd j hj
  unfold qwP qWd at hw
  have hst2 : qstL.getD j false = false := by
    cases hz : qstL[j]? with
    | none =>
      rw [List.getD_eq_getElem?_getD, hz] at hst
      cases hst
    | some z =>
      rw [List.getD_eq_getElem?_getD, hz] at hst ⊢
      exact hst
  rw [hst2] at hw
  obtain ⟨w1, w2, w3, w4⟩ := hw
  have hAA := qW_A hD hS hA
  have hlink : Cond.methodLink (qow X.2.1) idx (qy j) ∈ qU := qMT_ok _ (List.mem_of_elem_eq_true hlk)
  have hG : GoodIn qU (wsV (qow X.2.1) idx (qy j).cls (qy j) (Cond.code (qy j) (qb j) (qnl j) (qrt j) :: qU)) := qgoodIn (fun w hw => by
    rcases List.mem_append.mp hw with hw | hw
    · rcases List.mem_cons.mp hw with rfl | hw
      · exact hlink
      · rcases List.mem_cons.mp hw with rfl | hw
        · exact w3
        · rcases List.mem_cons.mp hw with rfl | hw
          · exact w4
          · rcases List.mem_cons.mp hw with rfl | hw
            · exact w2
            · cases hw
    · rcases List.mem_cons.mp hw with rfl | hw
      · exact w1
      · exact hw)
  have hcw := cwV (R := R) (mc := 0) (ms := 0) (rm := qrm d) As.length hts hG rfl rfl rfl ⟨rfl, y2, y3, by rw [y4, har]⟩ ⟨by show d + 1 ≤ R.frames; omega, by show 8 + (qnl j + 11) + 300 * d ≤ R.locals; omega⟩
  have hrec := qrv_ok hrv hK hP hRO hS
  rw [← hcls] at hrec
  have hp : PreV s H (qy j).cls (ad b) (qPc D cI cB ad H.size (.ref b :: As) h) (As.map (qcv ad)) := ⟨qPc_blind, hrec, fun U hU hW => ⟨rfl, by rw [hU], by rw [hU]; exact hP, va_K.moved hW.alike hK, hD.weaken (fun _ _ _ _ => trivial), qRO_call hRO hS hAA hU hW⟩⟩
  have hrun := va_runV (e := e) (below := below) (meth := meth) (locs := locs) (g := F0 m pc lsM (((Value.ref b :: As).reverse ++ rest).map (qcv ad))) (rest := rest.map (qcv ad)) ⟨hx, hb, hml, hown, hts⟩ hM hcw hp rfl (by simp) hl.2.1 (by simp [qcv]) (lv_room (by rw [qcat_map]; exact hrest)) hd ⟨by omega, by omega⟩
  refine q_run hrun hS hAA (fun v h' H1 locs1 hpl hK' hP1 hS1 => ?_)
  have g2 := go v h' hK' p l e R s m args below meth c D cI cB ad A H1 locs1 k0 n Q M0 hP1 (qW_D hD) hS1 lsM hl
  rw [List.map_append, qpl_map hpl] at g2
  exact g2
end QINV
/-! ## switches -/
theorem qsw_cases {P : Nat → Prop} {x : Int32} : ∀ (l : List (Int × Int)) (d : Nat), qsw P x l d → (∃ (q : Nat) (k t : Int), l[q]? = some (k, t) ∧ x = Int32.ofInt k ∧ P t.toNat) ∨ ((∀ (q : Nat) (k t : Int), l[q]? = some (k, t) → x ≠ Int32.ofInt k) ∧ P d)
  | [], d, h => Or.inr ⟨fun q k t hq => by simp at hq, h⟩
  | (k, t) :: l, d, h => by
    by_cases hx : x = Int32.ofInt k
    · exact Or.inl ⟨0, k, t, rfl, hx, h.1 hx⟩
    · rcases qsw_cases l d (h.2 hx) with ⟨q, k2, t2, h1, h2, h3⟩ | ⟨h1, h2⟩
      · exact Or.inl ⟨q + 1, k2, t2, h1, h2, h3⟩
      · refine Or.inr ⟨fun q k2 t2 hq => ?_, h2⟩
        cases q with
        | zero =>
          cases hq
          exact hx
        | succ q => exact h1 q k2 t2 hq
theorem qtb_ok {pcs : List Nat} {pc : Nat} : ∀ (os : List Int) (ps : List (Int × Int)) (lo : Int), qtb pcs pc lo os ps = true → os.length = ps.length ∧ ∀ (q : Nat) (k t : Int), ps[q]? = some (k, t) → k = lo + (q : Int) ∧ (Int32.ofInt k).toInt = k ∧ ∃ o, os[q]? = some o ∧ qtg pcs pc o t = true
  | [], [], lo, _ => ⟨rfl, fun q k t hq => by simp at hq⟩
  | [], _ :: _, lo, h => by cases h
  | _ :: _, [], lo, h => by cases h
  | o :: os, (k0, t0) :: ps, lo, h => by
    unfold qtb at h
    simp only [Bool.and_eq_true, decide_eq_true_eq] at h
    obtain ⟨h1, h2, h3, h4⟩ := h
    obtain ⟨i1, i2⟩ := qtb_ok os ps (lo + 1) h4
    refine ⟨by simp [i1], fun q k t hq => ?_⟩
    cases q with
    | zero =>
      cases hq
      exact ⟨by rw [h1]; simp, h2, o, rfl, h3⟩
    | succ q =>
      obtain ⟨e1, e2, o2, e3, e4⟩ := i2 q k t hq
      exact ⟨by rw [e1]; push_cast; omega, e2, o2, e3, e4⟩
theorem qlb_ok {pcs : List Nat} {pc : Nat} {P : Nat → Prop} {x : Int32} {d' : Int} {d : Nat} : ∀ (os ps : List (Int × Int)), qlb pcs pc os ps = true → qsw P x ps d → (∃ t : Int, qtg pcs pc (Op.lookupswitch.offset os d' x.toInt) t = true ∧ P t.toNat) ∨ (Op.lookupswitch.offset os d' x.toInt = d' ∧ P d)
  | [], [], _, h => Or.inr ⟨rfl, h⟩
  | [], _ :: _, h, _ => by cases h
  | _ :: _, [], h, _ => by cases h
  | (a, o) :: os, (k, t) :: ps, h, hs => by
    unfold qlb at h
    simp only [Bool.and_eq_true, decide_eq_true_eq] at h
    obtain ⟨h1, h2, h3, h4⟩ := h
    subst h1
    rw [Op.lookupswitch.offset_cons]
    by_cases hx : x = Int32.ofInt a
    · have e : a = x.toInt := by rw [hx, h2]
      rw [if_pos e]
      exact Or.inl ⟨t, h3, hs.1 hx⟩
    · have e : ¬ a = x.toInt := fun z => hx (by rw [z, Int32.ofInt_toInt])
      rw [if_neg e]
      exact qlb_ok os ps h4 (hs.2 hx)
section QSW
variable {X : qX} {pc : Nat} {ls : qL} {r : List Value} {h : qH}
theorem ok_tableswitch {x : Int32} {d' lo hi : Int} {offs : Array Int} {len : Nat} {dI : Int} {ps : List (Int × Int)} {R : List (Nat × Instr × Nat)} {P : Nat → Prop} (hd : decode (qb X.2.1) pc = .ok (.tableswitch d' lo hi offs, len)) (hq : qtg (qpcs R) pc d' dI = true) (hhi : hi + 1 = lo + (offs.toList.length : Int)) (htb : qtb (qpcs R) pc lo offs.toList ps = true) (hs : qsw P x ps dI.toNat) (kk : ∀ t, P t → qAtP X ((qpcs R).getD t 0) ls r h) : qAtP X pc ls (.int x :: r) h := by
  intro p l e R s m args below meth c D cI cB ad A H locs k0 n Q M hP hD hS lsM hl
  obtain ⟨l1, l2⟩ := qtb_ok _ _ _ htb
  rcases qsw_cases ps dI.toNat hs with ⟨q, k, t, h1, h2, h3⟩ | ⟨h1, h2⟩
  · obtain ⟨e1, e2, o, e3, e4⟩ := l2 q k t h1
    have hx : x.toInt = lo + (q : Int) := by rw [h2, e2, e1]
    have hql : q < offs.toList.length := (List.getElem?_eq_some_iff.mp e3).1
    exact lv_tableIn M.1 M.2.1 hd (by omega) (by omega) (off := o) (by
      rw [show (x.toInt - lo).toNat = q by omega, ← Array.getElem?_toList]
      exact e3) (qtg_ok e4) (kk _ h3 p l e R s m args below meth c D cI cB ad A H locs k0 n Q M hP hD hS lsM hl)
  · refine lv_tableOut M.1 M.2.1 hd ?_ (qtg_ok hq) (kk _ h2 p l e R s m args below meth c D cI cB ad A H locs k0 n Q M hP hD hS lsM hl)
    rcases Int.lt_or_le x.toInt lo with z | z
    · exact Or.inl z
    · rcases Int.lt_or_le hi x.toInt with w | w
      · exact Or.inr w
      · exfalso
        have hql : (x.toInt - lo).toNat < ps.length := by rw [← l1]; omega
        obtain ⟨kt, hkt⟩ : ∃ kt, ps[(x.toInt - lo).toNat]? = some kt := ⟨_, List.getElem?_eq_getElem hql⟩
        obtain ⟨k, t⟩ := kt
        obtain ⟨e1, e2, -⟩ := l2 _ k t hkt
        refine h1 _ k t hkt ?_
        have : k = x.toInt := by omega
        rw [this, Int32.ofInt_toInt]
theorem ok_lookupswitch {x : Int32} {d' : Int} {ps' : Array (Int × Int)} {len : Nat} {dI : Int} {ps : List (Int × Int)} {R : List (Nat × Instr × Nat)} {P : Nat → Prop} (hd : decode (qb X.2.1) pc = .ok (.lookupswitch d' ps', len)) (hq : qtg (qpcs R) pc d' dI = true) (hso : (ps'.toList.zip (ps'.toList.drop 1)).all (fun (a, next) => a.1 < next.1) = true) (hlb : qlb (qpcs R) pc ps'.toList ps = true) (hs : qsw P x ps dI.toNat) (kk : ∀ t, P t → qAtP X ((qpcs R).getD t 0) ls r h) : qAtP X pc ls (.int x :: r) h := by
  intro p l e R s m args below meth c D cI cB ad A H locs k0 n Q M hP hD hS lsM hl
  rcases qlb_ok (d' := d') _ _ hlb hs with ⟨t, h1, h2⟩ | ⟨h1, h2⟩
  · exact lv_lookup M.1 M.2.1 hd hso rfl (qtg_ok h1) (kk _ h2 p l e R s m args below meth c D cI cB ad A H locs k0 n Q M hP hD hS lsM hl)
  · exact lv_lookup M.1 M.2.1 hd hso h1 (qtg_ok hq) (kk _ h2 p l e R s m args below meth c D cI cB ad A H locs k0 n Q M hP hD hS lsM hl)
end QSW
end
section
/-! one step, many steps, a method's contract out of its steps -/
section QSTEP
variable {X : qX} {nx : Nat → qL → List Value → qH → Prop} {i : Nat} {ls : qL} {st : List Value} {h : qH}
set_option maxHeartbeats 4000000 in
theorem qstep_ok {a : Instr} (hj : X.2.1 < 139) (hnx : ∀ i ls st h, nx i ls st h → qAt X i ls st h) (hc : qnth (qCL.getD X.2.1 []) i = some a) (hs : qstep X.1 X.2.2.1 X.2.2.2.1 X.2.2.2.2 nx a i ls st h) : qAt X i ls st h := by
  obtain ⟨ins, len, hd, hm, hn⟩ := qcode hj hc
  have nxt : qend a = false → ∀ ls st h, nx (i + 1) ls st h → qAtP X (qpc X.2.1 i + len) ls st h := by
    intro he ls st h z
    rcases hn with e | e
    · rw [← e]
      exact hnx _ _ _ _ z
    · rw [he] at e
      cases e
  have jmp : ∀ (t : Int) ls st h, nx t.toNat ls st h → qAtP X ((qpcs (qRL.getD X.2.1 [])).getD t.toNat 0) ls st h := fun t ls st h z => hnx _ _ _ _ z
  unfold qAt
  cases a with
  | iload k =>
    obtain ⟨x, hv, hz⟩ := lI_ok hs
    rcases qm_iload hm with ⟨f, hf, rfl, rfl⟩ | ⟨rfl, rfl⟩
    · exact ok_iload_n hd hf hv (nxt rfl _ _ _ hz)
    · exact ok_iload hd hv (nxt rfl _ _ _ hz)
  | lload k =>
    obtain ⟨x, hv, hz⟩ := lL_ok hs
    rcases qm_lload hm with ⟨f, hf, rfl, rfl⟩ | ⟨rfl, rfl⟩
    · exact ok_lload_n hd hf hv (nxt rfl _ _ _ hz)
    · exact ok_lload hd hv (nxt rfl _ _ _ hz)
  | aload k =>
    obtain ⟨x, hv, hz⟩ := lR_ok hs
    rcases qm_aload hm with ⟨f, hf, rfl, rfl⟩ | ⟨rfl, rfl⟩
    · exact ok_aload_n hd hf hv (nxt rfl _ _ _ hz)
    · exact ok_aload hd hv (nxt rfl _ _ _ hz)
  | istore k =>
    obtain ⟨x, r, rfl, hz⟩ := eI_ok hs
    obtain ⟨hb, hz⟩ := eo_ok hz
    rw [Bool.and_eq_true] at hb
    rcases qm_istore hm with ⟨f, hf, rfl, rfl⟩ | ⟨rfl, rfl⟩
    · exact ok_istore_n hd hf (Nat.le_of_ble_eq_true hb.1) hb.2 (nxt rfl _ _ _ hz)
    · exact ok_istore hd (Nat.le_of_ble_eq_true hb.1) hb.2 (nxt rfl _ _ _ hz)
  | astore k =>
    obtain ⟨x, r, rfl, hz⟩ := eR_ok hs
    obtain ⟨hb, hz⟩ := eo_ok hz
    rw [Bool.and_eq_true] at hb
    rcases qm_astore hm with ⟨f, hf, rfl, rfl⟩ | ⟨rfl, rfl⟩
    · exact ok_astore_n hd hf (Nat.le_of_ble_eq_true hb.1) hb.2 (nxt rfl _ _ _ hz)
    · exact ok_astore hd (Nat.le_of_ble_eq_true hb.1) hb.2 (nxt rfl _ _ _ hz)
  | lstore k =>
    obtain ⟨x, r, rfl, hz⟩ := eL_ok hs
    obtain ⟨hb, hz⟩ := eo_ok hz
    rw [Bool.and_eq_true] at hb
    rcases qm_lstore hm with ⟨f, hf, rfl, rfl⟩ | ⟨rfl, rfl⟩
    · exact ok_lstore_n hd hf (Nat.le_of_ble_eq_true hb.1) hb.2 (nxt rfl _ _ _ hz)
    · exact ok_lstore hd (Nat.le_of_ble_eq_true hb.1) hb.2 (nxt rfl _ _ _ hz)
  | iinc k v =>
    obtain ⟨x, hv, hz⟩ := lI_ok hs
    obtain ⟨hb, hz⟩ := eo_ok hz
    rw [Bool.and_eq_true] at hb
    obtain ⟨rfl, rfl⟩ := qm_iinc hm
    exact ok_iinc hd hv (Nat.le_of_ble_eq_true hb.1) hb.2 (nxt rfl _ _ _ hz)
  | iconst v =>
    rcases qm_iconst hm with ⟨rfl, rfl⟩ | ⟨w, rfl, rfl, e⟩ | ⟨w, rfl, rfl, e⟩ | ⟨w, rfl, rfl, e⟩ | ⟨w, rfl, rfl, e⟩
    · exact ok_iconst hd (nxt rfl _ _ _ hs)
    · exact ok_bipush hd e (nxt rfl _ _ _ hs)
    · exact ok_sipush hd e (nxt rfl _ _ _ hs)
    · exact ok_ldcI hd e (nxt rfl _ _ _ hs)
    · exact ok_ldcW hd e (nxt rfl _ _ _ hs)
  | jsr v =>
    rcases qm_jsr hm with ⟨w, rfl, rfl, e⟩ | ⟨w, rfl, rfl, e⟩
    · exact ok_lconst hd e (nxt rfl _ _ _ hs)
    · exact ok_ldcJ hd e (nxt rfl _ _ _ hs)
  | ldc k =>
    obtain ⟨rfl, ho, rfl⟩ := qm_ldc hm
    exact ok_ldcS hd ho (nxt rfl _ _ _ hs)
  | iadd =>
    obtain ⟨y, x, r, rfl, hz⟩ := eII_ok hs
    obtain ⟨rfl, rfl⟩ := qone_ok (a := .iadd) hm
    exact ok_iadd hd (nxt rfl _ _ _ hz)
  | isub =>
    obtain ⟨y, x, r, rfl, hz⟩ := eII_ok hs
    obtain ⟨rfl, rfl⟩ := qone_ok (a := .isub) hm
    exact ok_isub hd (nxt rfl _ _ _ hz)
  | imul =>
    obtain ⟨y, x, r, rfl, hz⟩ := eII_ok hs
    obtain ⟨rfl, rfl⟩ := qone_ok (a := .imul) hm
    exact ok_imul hd (nxt rfl _ _ _ hz)
  | iand =>
    obtain ⟨y, x, r, rfl, hz⟩ := eII_ok hs
    obtain ⟨rfl, rfl⟩ := qone_ok (a := .iand) hm
    exact ok_iand hd (nxt rfl _ _ _ hz)
  | ior =>
    obtain ⟨y, x, r, rfl, hz⟩ := eII_ok hs
    obtain ⟨rfl, rfl⟩ := qone_ok (a := .ior) hm
    exact ok_ior hd (nxt rfl _ _ _ hz)
  | ixor =>
    obtain ⟨y, x, r, rfl, hz⟩ := eII_ok hs
    obtain ⟨rfl, rfl⟩ := qone_ok (a := .ixor) hm
    exact ok_ixor hd (nxt rfl _ _ _ hz)
  | ishl =>
    obtain ⟨y, x, r, rfl, hz⟩ := eII_ok hs
    obtain ⟨rfl, rfl⟩ := qone_ok (a := .ishl) hm
    exact ok_ishl hd (nxt rfl _ _ _ hz)
  | ishr =>
    obtain ⟨y, x, r, rfl, hz⟩ := eII_ok hs
    obtain ⟨rfl, rfl⟩ := qone_ok (a := .ishr) hm
    exact ok_ishr hd (nxt rfl _ _ _ hz)
  | iushr =>
    obtain ⟨y, x, r, rfl, hz⟩ := eII_ok hs
    obtain ⟨rfl, rfl⟩ := qone_ok (a := .iushr) hm
    exact ok_iushr hd (nxt rfl _ _ _ hz)
  | idiv =>
    obtain ⟨y, x, r, rfl, h0, hz⟩ := eII_ok hs
    obtain ⟨rfl, rfl⟩ := qone_ok (a := .idiv) hm
    exact ok_idiv hd h0 (nxt rfl _ _ _ hz)
  | irem =>
    obtain ⟨y, x, r, rfl, h0, hz⟩ := eII_ok hs
    obtain ⟨rfl, rfl⟩ := qone_ok (a := .irem) hm
    exact ok_irem hd h0 (nxt rfl _ _ _ hz)
  | ladd =>
    obtain ⟨y, x, r, rfl, hz⟩ := eLL_ok hs
    obtain ⟨rfl, rfl⟩ := qone_ok (a := .ladd) hm
    exact ok_ladd hd (nxt rfl _ _ _ hz)
  | lmul =>
    obtain ⟨y, x, r, rfl, hz⟩ := eLL_ok hs
    obtain ⟨rfl, rfl⟩ := qone_ok (a := .lmul) hm
    exact ok_lmul hd (nxt rfl _ _ _ hz)
  | land =>
    obtain ⟨y, x, r, rfl, hz⟩ := eLL_ok hs
    obtain ⟨rfl, rfl⟩ := qone_ok (a := .land) hm
    exact ok_land hd (nxt rfl _ _ _ hz)
  | lcmp =>
    obtain ⟨y, x, r, rfl, hz⟩ := eLL_ok hs
    obtain ⟨rfl, rfl⟩ := qone_ok (a := .lcmp) hm
    exact ok_lcmp hd (nxt rfl _ _ _ hz)
  | ldiv =>
    obtain ⟨y, x, r, rfl, h0, hz⟩ := eLL_ok hs
    obtain ⟨rfl, rfl⟩ := qone_ok (a := .ldiv) hm
    exact ok_ldiv hd h0 (nxt rfl _ _ _ hz)
  | lrem =>
    obtain ⟨y, x, r, rfl, h0, hz⟩ := eLL_ok hs
    obtain ⟨rfl, rfl⟩ := qone_ok (a := .lrem) hm
    exact ok_lrem hd h0 (nxt rfl _ _ _ hz)
  | i2l =>
    obtain ⟨x, r, rfl, hz⟩ := eI_ok hs
    obtain ⟨rfl, rfl⟩ := qone_ok (a := .i2l) hm
    exact ok_i2l hd (nxt rfl _ _ _ hz)
  | i2b =>
    obtain ⟨x, r, rfl, hz⟩ := eI_ok hs
    obtain ⟨rfl, rfl⟩ := qone_ok (a := .i2b) hm
    exact ok_i2b hd (nxt rfl _ _ _ hz)
  | i2c =>
    obtain ⟨x, r, rfl, hz⟩ := eI_ok hs
    obtain ⟨rfl, rfl⟩ := qone_ok (a := .i2c) hm
    exact ok_i2c hd (nxt rfl _ _ _ hz)
  | l2i =>
    obtain ⟨x, r, rfl, hz⟩ := eL_ok hs
    obtain ⟨rfl, rfl⟩ := qone_ok (a := .l2i) hm
    exact ok_l2i hd (nxt rfl _ _ _ hz)
  | dup =>
    obtain ⟨v, r, rfl, hv, hz⟩ := eV_ok hs
    obtain ⟨rfl, rfl⟩ := qone_ok (a := .dup) hm
    exact ok_dup hd hv (nxt rfl _ _ _ hz)
  | pop =>
    obtain ⟨v, r, rfl, hv, hz⟩ := eV_ok hs
    obtain ⟨rfl, rfl⟩ := qone_ok (a := .pop) hm
    exact ok_pop hd hv (nxt rfl _ _ _ hz)
  | dup2 =>
    obtain ⟨v, w, r, rfl, hv, hw, hz⟩ := eVV_ok hs
    obtain ⟨rfl, rfl⟩ := qone_ok (a := .dup2) hm
    exact ok_dup2 hd hv hw (nxt rfl _ _ _ hz)
  | fadd =>
    obtain ⟨y, x, r, rfl, hz⟩ := eII_ok hs
    obtain ⟨hb, hz⟩ := eo_ok hz
    rw [Bool.and_eq_true] at hb
    obtain ⟨k, rfl, rfl, e⟩ := qm_fadd hm
    exact ok_max hd e (Nat.le_of_ble_eq_true hb.1) (Nat.le_of_ble_eq_true hb.2) (nxt rfl _ _ _ hz)
  | fsub =>
    obtain ⟨y, x, r, rfl, hz⟩ := eII_ok hs
    obtain ⟨hb, hz⟩ := eo_ok hz
    rw [Bool.and_eq_true] at hb
    obtain ⟨k, rfl, rfl, e⟩ := qm_fsub hm
    exact ok_min hd e (Nat.le_of_ble_eq_true hb.1) (Nat.le_of_ble_eq_true hb.2) (nxt rfl _ _ _ hz)
  | goto t =>
    obtain ⟨o, rfl, rfl, e⟩ := qm_goto hm
    exact ok_goto hd (qtg_ok e) (jmp _ _ _ _ hs)
  | ifCond c t =>
    obtain ⟨x, r, rfl, hz⟩ := eI_ok hs
    obtain ⟨o, rfl, rfl, e⟩ := qm_ifCond hm
    cases c with
    | eq => exact ok_if_eq hd (qtg_ok e) (fun z => jmp _ _ _ _ (hz.1 z)) (fun z => nxt rfl _ _ _ (hz.2 z))
    | ne => exact ok_if_ne hd (qtg_ok e) (fun z => jmp _ _ _ _ (hz.2 z)) (fun z => nxt rfl _ _ _ (hz.1 z))
    | lt => exact ok_if_lt hd (qtg_ok e) (fun z => jmp _ _ _ _ (hz.1 z)) (fun z => nxt rfl _ _ _ (hz.2 z))
    | ge => exact ok_if_ge hd (qtg_ok e) (fun z => jmp _ _ _ _ (hz.1 z)) (fun z => nxt rfl _ _ _ (hz.2 z))
    | gt => exact ok_if_gt hd (qtg_ok e) (fun z => jmp _ _ _ _ (hz.1 z)) (fun z => nxt rfl _ _ _ (hz.2 z))
    | le => exact ok_if_le hd (qtg_ok e) (fun z => jmp _ _ _ _ (hz.1 z)) (fun z => nxt rfl _ _ _ (hz.2 z))
  | if_icmp c t =>
    obtain ⟨y, x, r, rfl, hz⟩ := eII_ok hs
    obtain ⟨o, rfl, rfl, e⟩ := qm_if_icmp hm
    cases c with
    | eq => exact ok_icmp_eq hd (qtg_ok e) (fun z => jmp _ _ _ _ (hz.1 z)) (fun z => nxt rfl _ _ _ (hz.2 z))
    | ne => exact ok_icmp_ne hd (qtg_ok e) (fun z => jmp _ _ _ _ (hz.2 z)) (fun z => nxt rfl _ _ _ (hz.1 z))
    | lt => exact ok_icmp_lt hd (qtg_ok e) (fun z => jmp _ _ _ _ (hz.1 z)) (fun z => nxt rfl _ _ _ (hz.2 z))
    | ge => exact ok_icmp_ge hd (qtg_ok e) (fun z => jmp _ _ _ _ (hz.1 z)) (fun z => nxt rfl _ _ _ (hz.2 z))
    | gt => exact ok_icmp_gt hd (qtg_ok e) (fun z => jmp _ _ _ _ (hz.1 z)) (fun z => nxt rfl _ _ _ (hz.2 z))
    | le => exact ok_icmp_le hd (qtg_ok e) (fun z => jmp _ _ _ _ (hz.1 z)) (fun z => nxt rfl _ _ _ (hz.2 z))
  | lookupswitch d ps =>
    obtain ⟨x, r, rfl, hz⟩ := eI_ok hs
    simp only [qmatch] at hm
    split at hm
    · simp only [Bool.and_eq_true, decide_eq_true_eq] at hm
      exact ok_tableswitch hd hm.1 hm.2.1 hm.2.2 hz (fun t z => hnx _ _ _ _ z)
    · simp only [Bool.and_eq_true] at hm
      exact ok_lookupswitch hd hm.1 hm.2.1 hm.2.2 hz (fun t z => hnx _ _ _ _ z)
    · cases hm
  | getfield f =>
    obtain ⟨a, r, rfl, hz⟩ := eR_ok hs
    obtain ⟨k, rfl, rfl, e⟩ := qm_getfield hm
    have hf : f = 64 * (f / 64) + f % 64 := by omega
    have hf64 : f % 64 < 64 := Nat.mod_lt _ (by decide)
    unfold qgf at hz
    split at hz
    · rename_i c' hk hlt
      obtain ⟨hb, hy⟩ := eo_ok hz
      clear hz
      have hb := eq_of_beq hb
      subst hb
      have hz := hy
      clear hy
      rw [hf] at e
      exact ok_getfield hd e hf64 hk (Nat.le_of_ble_eq_true hlt) (nxt rfl _ _ _ hz)
    · rename_i n0 hk
      obtain ⟨hb, hz⟩ := eo_ok hz
      rw [Bool.and_eq_true] at hb
      have hb1 := eq_of_beq hb.1
      have hb2 : f % 64 < 2 := Nat.le_of_ble_eq_true hb.2
      have hN : qNT.elem (qownL.getD X.2.1 0, k, f) = false := by
        cases hq : qNT.elem (qownL.getD X.2.1 0, k, f) with
        | false => rfl
        | true =>
          have hmem := List.mem_of_elem_eq_true hq
          have : ∀ q ∈ qNT, q.2.2 < 320 := by decide +kernel
          have h3 : f < 320 := this _ hmem
          omega
      unfold qlk at e
      rw [hN, Bool.or_false] at e
      rcases (show f % 64 = 0 ∨ f % 64 = 1 by omega) with h0 | h0
      · have hf2 : f = 320 := by omega
        subst hf2
        exact ok_sget0 hd hk e (nxt rfl _ _ _ hz)
      · have hf2 : f = 321 := by omega
        subst hf2
        exact ok_sget1 hd hk e (nxt rfl _ _ _ hz)
    · exact hz.elim
  | putfield f =>
    obtain ⟨v, a, r, rfl, hz⟩ := eVR_ok hs
    obtain ⟨k, rfl, rfl, e⟩ := qm_putfield hm
    have hf : f = 64 * (f / 64) + f % 64 := by omega
    have hf64 : f % 64 < 64 := Nat.mod_lt _ (by decide)
    unfold qpf at hz
    split at hz
    · rename_i c' hk hlt
      obtain ⟨hb, hy⟩ := eo_ok hz
      clear hz
      have hb := eq_of_beq hb
      subst hb
      have hz := hy
      clear hy
      rw [hf] at e
      have hkl : f % 64 < qnf (f / 64) := Nat.le_of_ble_eq_true hlt
      have hfk := qfk_ok _ (qkd_c hk) _ hkl
      split at hz
      · rename_i x hq
        unfold qfkB at hfk
        rw [hq] at hfk
        simp only [Bool.and_eq_true, decide_eq_true_eq] at hfk
        refine ok_put (h' := qI h a (f % 64) x) hd e hf64 hk hkl (eq_of_beq hfk.1) hfk.2 rfl rfl (fun _ => rfl) (fun ad j => ?_) (fun r hr => ⟨qI_ne hr, rfl⟩) (nxt rfl _ _ _ hz)
        by_cases hj : j = f % 64
        · subst hj
          rw [if_pos rfl]
          unfold qfv
          rw [hq]
          show Value.int (if a = a ∧ f % 64 = f % 64 then x else _) = _
          rw [if_pos ⟨rfl, rfl⟩]
        · rw [if_neg hj]
          have : (qI h a (f % 64) x).1 a j = h.1 a j := by
            show (if a = a ∧ j = f % 64 then x else _) = _
            rw [if_neg (fun z => hj z.2)]
          unfold qfv
          rw [this]
          rfl
      · rename_i x hq
        unfold qfkB at hfk
        rw [hq] at hfk
        simp only [Bool.and_eq_true, decide_eq_true_eq] at hfk
        refine ok_put (h' := qJ h a (f % 64) x) hd e hf64 hk hkl (eq_of_beq hfk.1) hfk.2 rfl rfl (fun _ => rfl) (fun ad j => ?_) (fun r hr => ⟨rfl, qJ_ne hr⟩) (nxt rfl _ _ _ hz)
        by_cases hj : j = f % 64
        · subst hj
          rw [if_pos rfl]
          unfold qfv
          rw [hq]
          show Value.long (if a = a ∧ f % 64 = f % 64 then x else _) = _
          rw [if_pos ⟨rfl, rfl⟩]
        · rw [if_neg hj]
          have : (qJ h a (f % 64) x).2 a j = h.2 a j := by
            show (if a = a ∧ j = f % 64 then x else _) = _
            rw [if_neg (fun z => hj z.2)]
          unfold qfv
          rw [this]
          rfl
      · rename_i x hq
        obtain ⟨h01, hz⟩ := hz
        unfold qfkB at hfk
        rw [hq] at hfk
        simp only [Bool.and_eq_true, decide_eq_true_eq] at hfk
        refine ok_put (h' := qI h a (f % 64) x) hd e hf64 hk hkl (eq_of_beq hfk.1) hfk.2 (by rcases h01 with h01 | h01 <;> rw [h01] <;> rfl) (by rcases h01 with h01 | h01 <;> rw [h01] <;> rfl) (fun _ => rfl) (fun ad j => ?_) (fun r hr => ⟨qI_ne hr, rfl⟩) (nxt rfl _ _ _ hz)
        by_cases hj : j = f % 64
        · subst hj
          rw [if_pos rfl]
          unfold qfv
          rw [hq]
          show Value.int (if a = a ∧ f % 64 = f % 64 then x else _) = _
          rw [if_pos ⟨rfl, rfl⟩]
        · rw [if_neg hj]
          have : (qI h a (f % 64) x).1 a j = h.1 a j := by
            show (if a = a ∧ j = f % 64 then x else _) = _
            rw [if_neg (fun z => hj z.2)]
          unfold qfv
          rw [this]
          rfl
      · exact hz.elim
    · exact hz.elim
  | getstatic f =>
    obtain ⟨k, rfl, rfl, e⟩ := qm_getstatic hm
    exact ok_gets hd e (nxt rfl _ _ _ hs)
  | iaload =>
    obtain ⟨j, a, r, rfl, hz⟩ := eIR_ok hs
    obtain ⟨rfl, rfl⟩ := qone_ok (a := .iaload) hm
    unfold qial at hz
    split at hz
    · rename_i N hk
      exact ok_iald hd hk hz.1 (nxt rfl _ _ _ hz.2)
    · rename_i N hk
      exact ok_sld hd hk hz.1 (nxt rfl _ _ _ hz.2)
    · exact hz.elim
  | baload =>
    obtain ⟨j, a, r, rfl, hz⟩ := eIR_ok hs
    obtain ⟨rfl, rfl⟩ := qone_ok (a := .baload) hm
    unfold qbal at hz
    split at hz
    · rename_i N hk
      exact ok_bald hd hk hz.1 (nxt rfl _ _ _ hz.2)
    · rename_i N hk
      exact ok_tbld hd hk hz.1 (nxt rfl _ _ _ hz.2)
    · exact hz.elim
  | iastore =>
    obtain ⟨v, j, a, r, rfl, hz⟩ := eIIR_ok hs
    obtain ⟨rfl, rfl⟩ := qone_ok (a := .iastore) hm
    unfold qias at hz
    split at hz
    · rename_i N hk
      exact ok_iast hd hk hz.1 (nxt rfl _ _ _ hz.2)
    · exact hz.elim
  | bastore =>
    obtain ⟨v, j, a, r, rfl, hz⟩ := eIIR_ok hs
    obtain ⟨rfl, rfl⟩ := qone_ok (a := .bastore) hm
    unfold qbas at hz
    split at hz
    · rename_i N hk
      exact ok_bast hd hk hz.1 (nxt rfl _ _ _ hz.2)
    · exact hz.elim
  | arraylength =>
    obtain ⟨a, r, rfl, hz⟩ := eR_ok hs
    obtain ⟨rfl, rfl⟩ := qone_ok (a := .arraylength) hm
    unfold qlen at hz
    split at hz
    · rename_i N hk
      exact ok_alen hd hk (Or.inl rfl) (nxt rfl _ _ _ hz)
    · rename_i N hk
      exact ok_alen hd hk (Or.inr rfl) (nxt rfl _ _ _ hz)
    · rename_i N hk
      exact ok_tlen hd hk (nxt rfl _ _ _ hz)
    · rename_i N hk
      exact ok_slen hd hk hz.1 (nxt rfl _ _ _ hz.2)
    · exact hz.elim
  | invokestatic f =>
    obtain ⟨hb, hz⟩ := eo_ok hs
    rw [Bool.and_eq_true] at hb
    obtain ⟨k, rfl, rfl, h1, h2, h3, h4⟩ := qm_static hm
    have hl : f % 16 ≤ st.length := Nat.le_of_ble_eq_true hb.1
    have e : st = ((st.take (f % 16)).reverse).reverse ++ st.drop (f % 16) := by rw [List.reverse_reverse, List.take_append_drop]
    rw [e]
    exact ok_static hd h1 h2 h3 (by rw [h4, List.length_reverse, List.length_take]; omega) (Nat.le_of_ble_eq_true hb.2) hz (fun v h' z => nxt rfl _ _ _ z)
  | invokevirtual f =>
    obtain ⟨hb, hz⟩ := eo_ok hs
    rw [Bool.and_eq_true, Bool.and_eq_true] at hb
    obtain ⟨k, rfl, rfl, h1, h2, h3, h4, h5⟩ := qm_virtual hm
    have hl : f / 16 % 16 ≤ st.length := Nat.le_of_ble_eq_true hb.1.1
    have e : st = ((st.take (f / 16 % 16)).reverse).reverse ++ st.drop (f / 16 % 16) := by rw [List.reverse_reverse, List.take_append_drop]
    have hlen : ((st.take (f / 16 % 16)).reverse).length = f / 16 % 16 := by rw [List.length_reverse, List.length_take]; omega
    rw [e]
    have hrv := hb.2
    generalize (st.take (f / 16 % 16)).reverse = As at hz hrv hlen ⊢
    match As, hz, hrv, hlen with
    | [], _, hrv, _ => cases hrv
    | .ref b :: As, hz, hrv, hlen => exact ok_virtual hd h1 h2 h3 (by simp at hlen; omega) h5 hrv (Nat.le_of_ble_eq_true hb.1.2) hz (fun v h' z => nxt rfl _ _ _ z)
    | .int _ :: _, _, hrv, _ => cases hrv
    | .long _ :: _, _, hrv, _ => cases hrv
    | .float _ :: _, _, hrv, _ => cases hrv
    | .double _ :: _, _, hrv, _ => cases hrv
    | .null :: _, _, hrv, _ => cases hrv
    | .retAddr _ :: _, _, hrv, _ => cases hrv
  | ireturn =>
    obtain ⟨x, r, rfl, hz⟩ := eI_ok hs
    obtain ⟨rfl, hz⟩ := eN_ok hz
    obtain ⟨rfl, rfl⟩ := qone_ok (a := .ireturn) hm
    intro p l e R s m args below meth c D cI cB ad A H locs k0 n Q M hP hD hS lsM hl
    split at hz
    · rename_i hr
      exact M.2.2.2.2.2.2.2.2.2.2 (some (.int x)) h H locs lsM _ hz ⟨hd, Or.inl hr⟩ hP hD hS
    · rename_i hr
      exact M.2.2.2.2.2.2.2.2.2.2 (some (.int x)) h H locs lsM _ hz.2 ⟨hd, Or.inr (Or.inl ⟨hr, hz.1⟩)⟩ hP hD hS
    · rename_i hr
      exact M.2.2.2.2.2.2.2.2.2.2 (some (.int x)) h H locs lsM _ hz.2 ⟨hd, Or.inr (Or.inr ⟨hr, hz.1⟩)⟩ hP hD hS
    · exact hz.elim
  | lreturn =>
    obtain ⟨x, r, rfl, hz⟩ := eL_ok hs
    obtain ⟨rfl, hz⟩ := eN_ok hz
    obtain ⟨rfl, rfl⟩ := qone_ok (a := .lreturn) hm
    intro p l e R s m args below meth c D cI cB ad A H locs k0 n Q M hP hD hS lsM hl
    split at hz
    · rename_i hr
      exact M.2.2.2.2.2.2.2.2.2.2 (some (.long x)) h H locs lsM _ hz ⟨hd, hr⟩ hP hD hS
    · exact hz.elim
  | return_ =>
    obtain ⟨rfl, hz⟩ := eN_ok hs
    obtain ⟨rfl, rfl⟩ := qone_ok (a := .return_) hm
    intro p l e R s m args below meth c D cI cB ad A H locs k0 n Q M hP hD hS lsM hl
    split at hz
    · rename_i hr
      exact M.2.2.2.2.2.2.2.2.2.2 none h H locs lsM _ hz ⟨hd, hr⟩ hP hD hS
    · exact hz.elim
  | _ => exact hs.elim
end QSTEP
theorem wp_at {X : qX} {C : List Instr} {cut : List Nat} (hj : X.2.1 < 139) (hC : qCL.getD X.2.1 [] = C) : ∀ (n i : Nat) (ls : qL) (st : List Value) (h : qH), wp X C cut n i ls st h → qAt X i ls st h := by
  intro n
  induction n with
  | zero => exact fun i ls st h z => z
  | succ n ih =>
    intro i ls st h hw
    unfold wp at hw
    split at hw
    · rename_i a ha
      refine qstep_ok hj ?_ (by rw [hC]; exact ha) hw
      intro i ls st h z
      split at z
      · exact z
      · exact ih _ _ _ _ z
    · exact hw.elim
/-- the locals at a method's entry -/
def qent : List Value → qL
  | [] => []
  | v :: vs => if v.category = 2 then some v :: none :: qent vs else some v :: qent vs
theorem qent_len (ad : Nat → Nat) : ∀ vs : List Value, (lg_sl (vs.map (qcv ad))).length = (qent vs).length
  | [] => rfl
  | v :: vs => by
    have ih := qent_len ad vs
    unfold lg_sl at ih ⊢
    rw [List.map_cons, List.flatMap_cons, List.length_append, ih, qent, qcv_cat]
    by_cases h : v.category = 2
    · rw [if_pos h, if_pos h]
      simp
      omega
    · rw [if_neg h, if_neg h]
      simp
      omega
theorem qent_args (ad : Nat → Nat) : ∀ (vs : List Value) (k i : Nat) (v : Value), (qent vs).getD i none = some v → (k + i, qcv ad v) ∈ lv_args k (vs.map (qcv ad))
  | [], k, i, v, h => by simp [qent] at h
  | w :: vs, k, i, v, h => by
    rw [List.map_cons, lv_args, qcv_cat]
    unfold qent at h
    by_cases hc : w.category = 2
    · rw [if_pos hc] at h ⊢
      match i, h with
      | 0, h =>
        cases h
        exact List.mem_cons_self
      | 1, h => cases h
      | i + 2, h =>
        have := qent_args ad vs (k + 2) i v h
        rw [show k + (i + 2) = k + 2 + i by omega]
        exact List.mem_cons_of_mem _ this
    · rw [if_neg hc] at h ⊢
      match i, h with
      | 0, h =>
        cases h
        exact List.mem_cons_self
      | i + 1, h =>
        have := qent_args ad vs (k + 1) i v h
        rw [show k + (i + 1) = k + 1 + i by omega]
        exact List.mem_cons_of_mem _ this
theorem qent_pad {As : List Value} {n i : Nat} {v : Value} (h : (qent As ++ List.replicate n none).getD i none = some v) : (qent As).getD i none = some v := by
  rw [List.getD_eq_getElem?_getD] at h ⊢
  rcases Nat.lt_or_ge i (qent As).length with q | q
  · rw [List.getElem?_append_left q] at h
    exact h
  · rw [List.getElem?_append_right q, List.getElem?_replicate] at h
    split at h <;> cases h
def q0 : Nat × (Nat → Int32) := (0, fun _ => 0)
theorem Sem_intro {d j : Nat} {As : List Value} {h : qH} {K : qK} {ls : qL} (hj : j < 136) (hlen : (qent As).length ≤ qnl j) (hls : qent As ++ List.replicate (qnl j - (qent As).length) none = ls) (hat : qAt (d, j, qrt j, q0, K) 0 ls [] h) : qSem d j As h K := by
  intro l D cI cB ad sz
  obtain ⟨y1, y2, y3, y4, y5, y6, y7⟩ := qyf_ok hj
  refine Met.ofW (cc := qb j) (maxL := qnl j) (ret := qrt j) y1 rfl ?_
  intro p e s m args below meth c s₁ B hml hv
  obtain ⟨rfl, hsz, hP, hK, hD0, hRO⟩ := hv
  have hx := B.exec
  have hb := B.bytes
  have hr := B.returns
  have hts := atoms_spec (ws := Cond.code (qy j) (qb j) (qnl j) (qrt j) :: qU) B.pre
  have hown : s.vm.findClass (qow j) = some m.cls := by rw [← y7]; exact findClass_of_methodNamed B.named
  have hlocks := B.notSynchronized
  subst hsz
  have hD := hD0.self (sz := s.heap.size)
  have hA : ∀ q : Nat, s.heap.size ≤ q → va_A (qW cI cB ad h) s.heap.size q := fun q h => Or.inr h
  have hS : va_S (va_A (qW cI cB ad h) s.heap.size) s.heap s.heap [] := va_S.rf
  have hl := lv_entry (As.map (qcv ad)) (n := qnl j) (by rw [qent_len]; exact hlen)
  rw [lg_entry_eq]
  generalize (lg_sl (As.map (qcv ad)) ++ List.replicate (qnl j - (lg_sl (As.map (qcv ad))).length) Slot.unset).toArray = lsM at hl ⊢
  have hat2 := hat p l e (headSpec (Cond.code (qy j) (qb j) (qnl j) (qrt j) :: qU) (qrm d)).room s m (As.map (qcv ad)).toArray below meth c D cI cB ad (va_A (qW cI cB ad h) s.heap.size) s.heap [] 0 0 (MQ below (fun _ st oc t => (∃ (v : Option Value) (h' : qH), oc = .returned v ∧ qpl v ∧ K v h' ∧ va_P D vwCl (qW cI cB ad h') t.heap) ∧ va_F (va_A (qW cI cB ad h) s.heap.size) st t) (As.map (qcv ad)).toArray s 0 0 (va_A (qW cI cB ad h) s.heap.size))
    ⟨hx, hb, hml, hown, fun w hw => hts w (List.mem_cons_of_mem _ hw), hK, hA, hRO, ⟨Nat.le_refl d, Nat.le_refl (300 * d), Nat.le_refl 0, Nat.le_refl 0⟩, Or.inl rfl, ?_⟩ hP hD hS lsM ⟨?_, ?_⟩
  · have e0 : qpc j 0 = 0 := y5
    show W _ _ _ _ _ _ _ _ _ _ _ _ _ _ _ (F0 m 0 lsM [])
    have e1 : qpc (d, j, qrt j, q0, K).2.1 0 = 0 := y5
    rw [e1] at hat2
    exact hat2
  · intro v h' H' locs' lsM' pc hKv hret hP' hD' hS'
    unfold qRet at hret
    split at hret
    · rename_i x
      obtain ⟨hd, hrt | ⟨hrt, h01⟩ | ⟨hrt, h0⟩⟩ := hret
      · exact W.iret hx hb (hr.trans hrt) (fun t ht hW => ⟨⟨some (.int x), h', rfl, trivial, hKv, by rw [ht]; exact hP'⟩, hS'.F ht⟩) hS'.2.2 hd
      · exact W.zret hx hb (hr.trans hrt) (by rcases h01 with rfl | rfl <;> rfl) (fun t ht hW => ⟨⟨some (.int x), h', rfl, trivial, hKv, by rw [ht]; exact hP'⟩, hS'.F ht⟩) hS'.2.2 hd
      · exact W.zret hx hb (hr.trans hrt) (by rw [h0]; rfl) (fun t ht hW => ⟨⟨some (.int x), h', rfl, trivial, hKv, by rw [ht]; exact hP'⟩, hS'.F ht⟩) hS'.2.2 hd
    · rename_i x
      exact W.lret hx hb (hr.trans hret.2) (fun t ht hW => ⟨⟨some (.long x), h', rfl, trivial, hKv, by rw [ht]; exact hP'⟩, hS'.F ht⟩) hS'.2.2 hret.1
    · exact W.vret hx hb (hr.trans hret.2) (fun t ht hW => ⟨⟨none, h', rfl, trivial, hKv, by rw [ht]; exact hP'⟩, hS'.F ht⟩) hS'.2.2 hret.1
    · exact hret.elim
  · rw [← hls, List.length_append, List.length_replicate]
    show _ ≤ qnl j
    omega
  · refine lv_into hl ?_
    rintro ⟨i, w⟩ hq
    obtain ⟨v, hv, rfl⟩ := qpr_mem.mp hq
    rw [← hls] at hv
    have := qent_args ad As 0 i v (qent_pad hv)
    rw [Nat.zero_add] at this
    exact this
/-- a contract out of steps -/
theorem call_wp {d j n : Nat} {As : List Value} {h : qH} {K : qK} {ls : qL} {C : List Instr} {cut : List Nat} {rt : Option FieldType} (d0 : Nat) (hj : j < 136) (hd : d0 < d) (hC : qCL.getD j [] = C) (hrt : qrt j = rt) (hlen : (qent As).length ≤ qnl j) (hls : qent As ++ List.replicate (qnl j - (qent As).length) none = ls) (hw : wp (d0, j, rt, q0, K) C cut n 0 ls [] h) : qCall d j As h K := by
  subst hrt
  exact ⟨d0, hd, Sem_intro hj hlen hls (wp_at (by show j < 139; omega) hC _ _ _ _ _ hw)⟩
end
section
/-! the game, in numbers: S 0 0 people, S 1 p kind, S 2 p need, S 3 k how much a sign tells, S 4 p known signs, S 5 0 hanged, S 5 1 said, S 5 2 forbidden, S 5 3 words, S 5 4 how much is asked, S 6 p told by, S 7 / 8 / 9 i asked who, signs, so -/
abbrev gS : Type := Nat → Nat → Nat
def b2 (b : Bool) : Int32 := match b with
  | true => 1
  | false => 0
def gtog (S : gS) (s : Nat) : Nat := (if s.testBit 0 then S 3 0 else 0) + (if s.testBit 1 then S 3 1 else 0) + (if s.testBit 2 then S 3 2 else 0) + (if s.testBit 3 then S 3 3 else 0)
def gen (k n : Nat) : Nat := match k with
  | 2 => (n + 1) / 2
  | 4 => n + 2
  | _ => n
def ginf (S : gS) (p s : Nat) : Bool := decide (gen (S 1 p) (S 2 p) ≤ gtog S s)
def gking (S : gS) (p : Nat) : Bool := S 1 p == 1 || S 1 p == 4
def gisA (S : gS) (p k : Nat) : Bool := k == 0 || k == S 1 p || (k == 1 && S 1 p == 4)
def gcan (S : gS) (f t s : Nat) : Bool := f != t && (S 4 f).testBit s && !(S 4 t).testBit s && !(S 5 0).testBit f && !(S 5 0).testBit t
def gnew (S : gS) (t s : Nat) : Bool := !ginf S t (S 4 t) && ginf S t (S 4 t ||| 1 <<< s)
def ghang (S : gS) (f t s : Nat) : Bool := S 1 f != 2 && (((S 5 2).testBit s && S 1 f != 3) || (!gking S t && gnew S t s))
/-- bounds -/
def GB (S : gS) : Prop := S 0 0 ≤ 4 ∧ (∀ p, p < S 0 0 → S 1 p < 5 ∧ S 2 p < 10 ∧ S 4 p < 16) ∧ (∀ k, k < 4 → S 3 k < 10) ∧ S 5 0 < 16 ∧ S 5 1 < 16 ∧ S 5 2 < 16
def fget (a b : Int32) : Int32 := a >>> (4 * b &&& 31) &&& 15
def fput (a b v : Int32) : Int32 := (a &&& (15 <<< (4 * b &&& 31) ^^^ (-1))) ||| ((v &&& 15) <<< (4 * b &&& 31))
/-- the class's court -/
def RC (h : qH) (S : gS) : Prop := h.1 3 0 = nI (S 0 0) ∧ (∀ p, p < S 0 0 → fget (h.1 3 1) (nI p) = nI (S 1 p) ∧ fget (h.1 3 2) (nI p) = nI (S 2 p) ∧ fget (h.1 3 4) (nI p) = nI (gen (S 1 p) (S 2 p))) ∧ (∀ k, k < 4 → fget (h.1 3 5) (nI k) = nI (S 3 k)) ∧ ∀ s, s < 16 → h.1 4 s = nI (gtog S s)
theorem kI {K : qK} {x y : Int32} {h : qH} (hk : K (some (.int x)) h) (e : x = y) : K (some (.int y)) h := e ▸ hk
theorem gtog_lt {S : gS} (hB : GB S) (s : Nat) : gtog S s < 40 := by
  have h0 := hB.2.2.1 0 (by decide)
  have h1 := hB.2.2.1 1 (by decide)
  have h2 := hB.2.2.1 2 (by decide)
  have h3 := hB.2.2.1 3 (by decide)
  unfold gtog
  split <;> split <;> split <;> split <;> omega
theorem gen_lt {S : gS} (hB : GB S) {p : Nat} (hp : p < S 0 0) : gen (S 1 p) (S 2 p) < 12 := by
  have := (hB.2.1 p hp).2.1
  unfold gen
  split <;> omega
section QC
variable {d : Nat} {h : qH} {K : qK} {S : gS}
theorem c_get {a b : Int32} (hk : K (some (.int (fget a b))) h) : qCall (d + 1) 0 [.int a, .int b] h K := by
  refine call_wp (n := 20) (cut := []) _ (by decide) (Nat.lt_succ_self _) rfl rfl (Nat.le_of_ble_eq_true rfl) rfl ?_
  exact hk
theorem c_put {a b v : Int32} (hk : K (some (.int (fput a b v))) h) : qCall (d + 1) 1 [.int a, .int b, .int v] h K := by
  refine call_wp (n := 30) (cut := []) _ (by decide) (Nat.lt_succ_self _) rfl rfl (Nat.le_of_ble_eq_true rfl) rfl ?_
  exact hk
theorem c_isPerson {p : Int32} (hC : RC h S) (hB : GB S) (ht : ∀ n, n < S 0 0 → p = nI n → K (some (.int 1)) h) (hf : (∀ n, n < S 0 0 → p ≠ nI n) → K (some (.int 0)) h) : qCall (d + 1) 15 [.ref 3, .int p] h K := by
  refine call_wp (n := 20) (cut := []) _ (by decide) (Nat.lt_succ_self _) rfl rfl (Nat.le_of_ble_eq_true rfl) rfl ?_
  have e := hC.1
  have hn := hB.1
  refine And.intro (fun c1 => ?_) (fun c1 => ?_)
  · refine ⟨Or.inl rfl, hf (fun n hn z => ?_)⟩
    rw [z] at c1
    exact nI_pos (by omega) c1
  · obtain ⟨q, hq, rfl⟩ := nI_of c1
    refine And.intro (fun c2 => ?_) (fun c2 => ?_)
    · refine ⟨Or.inl rfl, hf (fun n hn z => ?_)⟩
      have c2 : h.1 3 0 ≤ nI q := c2
      rw [e, nI_leI (by omega) (by omega)] at c2
      rw [nI_eq (by omega) (by omega)] at z
      omega
    · have c2 : ¬ h.1 3 0 ≤ nI q := c2
      rw [e, nI_leI (by omega) (by omega)] at c2
      exact ⟨Or.inr rfl, ht q (by omega) rfl⟩
theorem c_isSign {p : Int32} (hC : RC h S) (hB : GB S) (ht : ∀ n, n < 4 → 0 < S 0 0 → p = nI n → K (some (.int 1)) h) (hf : (0 < S 0 0 → ∀ n, n < 4 → p ≠ nI n) → K (some (.int 0)) h) : qCall (d + 1) 17 [.ref 3, .int p] h K := by
  refine call_wp (n := 20) (cut := []) _ (by decide) (Nat.lt_succ_self _) rfl rfl (Nat.le_of_ble_eq_true rfl) rfl ?_
  have e := hC.1
  have hn := hB.1
  refine And.intro (fun c1 => ?_) (fun c1 => ?_)
  · refine ⟨Or.inl rfl, hf (fun h0 => ?_)⟩
    have c1 : h.1 3 0 ≤ nI 0 := c1
    rw [e, nI_leI (by omega) (by omega)] at c1
    omega
  · have c1 : ¬ h.1 3 0 ≤ nI 0 := c1
    rw [e, nI_leI (by omega) (by omega)] at c1
    refine And.intro (fun c2 => ?_) (fun c2 => ?_)
    · refine ⟨Or.inl rfl, hf (fun h0 n hn z => ?_)⟩
      rw [z] at c2
      exact nI_pos (by omega) c2
    · obtain ⟨q, hq, rfl⟩ := nI_of c2
      refine And.intro (fun c3 => ?_) (fun c3 => ?_)
      · refine ⟨Or.inl rfl, hf (fun h0 n hn z => ?_)⟩
        have c3 : nI 4 ≤ nI q := c3
        rw [nI_leI (by omega) (by omega)] at c3
        rw [nI_eq (by omega) (by omega)] at z
        omega
      · have c3 : ¬ nI 4 ≤ nI q := c3
        rw [nI_leI (by omega) (by omega)] at c3
        exact ⟨Or.inr rfl, ht q (by omega) (by omega) rfl⟩
theorem c_kindOf {p : Nat} (hC : RC h S) (hp : p < S 0 0) (hk : K (some (.int (nI (S 1 p)))) h) : qCall (d + 2) 18 [.ref 3, .int (nI p)] h K := by
  refine call_wp (n := 20) (cut := []) _ (by decide) (Nat.lt_succ_self _) rfl rfl (Nat.le_of_ble_eq_true rfl) rfl ?_
  exact c_get (kI hk (hC.2.1 p hp).1.symm)
theorem c_needOf {p : Nat} (hC : RC h S) (hp : p < S 0 0) (hk : K (some (.int (nI (S 2 p)))) h) : qCall (d + 2) 19 [.ref 3, .int (nI p)] h K := by
  refine call_wp (n := 20) (cut := []) _ (by decide) (Nat.lt_succ_self _) rfl rfl (Nat.le_of_ble_eq_true rfl) rfl ?_
  exact c_get (kI hk (hC.2.1 p hp).2.1.symm)
theorem c_amountOf {p : Nat} (hC : RC h S) (hp : p < 4) (hk : K (some (.int (nI (S 3 p)))) h) : qCall (d + 2) 20 [.ref 3, .int (nI p)] h K := by
  refine call_wp (n := 20) (cut := []) _ (by decide) (Nat.lt_succ_self _) rfl rfl (Nat.le_of_ble_eq_true rfl) rfl ?_
  exact c_get (kI hk (hC.2.2.1 p hp).symm)
theorem c_together {s : Nat} (hC : RC h S) (hs : s < 16) (hk : K (some (.int (nI (gtog S s)))) h) : qCall (d + 1) 23 [.ref 3, .int (nI s)] h K := by
  refine call_wp (n := 30) (cut := []) _ (by decide) (Nat.lt_succ_self _) rfl rfl (Nat.le_of_ble_eq_true rfl) rfl ?_
  refine And.intro (fun c1 => ?_) (fun c1 => ?_)
  · exact absurd c1 (nI_pos (by omega))
  · refine And.intro (fun c2 => ?_) (fun c2 => ?_)
    · have c2 : nI 16 ≤ nI s := c2
      rw [nI_leI (by omega) (by omega)] at c2
      omega
    · refine And.intro (vp_in_nI hs (by omega)) ?_
      refine kI hk ?_
      show _ = h.1 4 (nI s).toNatClampNeg
      rw [nI_clamp (by omega), hC.2.2.2 s hs]
theorem c_infers {p s : Nat} (hC : RC h S) (hB : GB S) (hp : p < S 0 0) (hs : s < 16) (ht : ginf S p s = true → K (some (.int 1)) h) (hf : ginf S p s = false → K (some (.int 0)) h) : qCall (d + 2) 24 [.ref 3, .int (nI p), .int (nI s)] h K := by
  refine call_wp (n := 30) (cut := []) _ (by decide) (Nat.lt_succ_self _) rfl rfl (Nat.le_of_ble_eq_true rfl) rfl ?_
  refine c_together hC hs ?_
  refine c_get ?_
  have l1 := gtog_lt hB s
  have l2 := gen_lt hB hp
  have e := (hC.2.1 p hp).2.2
  refine And.intro (fun c1 => ?_) (fun c1 => ?_)
  · have c1 : nI (gtog S s) < fget (h.1 3 4) (nI p) := c1
    rw [e, nI_ltI (by omega) (by omega)] at c1
    exact ⟨Or.inl rfl, hf (decide_eq_false (by omega))⟩
  · have c1 : ¬ nI (gtog S s) < fget (h.1 3 4) (nI p) := c1
    rw [e, nI_ltI (by omega) (by omega)] at c1
    exact ⟨Or.inr rfl, ht (decide_eq_true (by omega))⟩
end QC
end
section
theorem b15 {i : Nat} (h : 4 ≤ i) : (Int32.toBitVec 15).getLsbD i = false := by
  show (BitVec.ofNat 32 15).getLsbD i = false
  rw [BitVec.getLsbD_ofNat, Nat.testBit_lt_two_pow (Nat.lt_of_lt_of_le (by decide : 15 < 2 ^ 4) (Nat.pow_le_pow_right (by decide) h)), Bool.and_false]
theorem fgp_gen (a v X Y : Int32) (x y : Nat) (hx : x < 4) (hy : y < 4) (hX : (X.toBitVec.smod 32).toNat = 4 * x) (hY : (Y.toBitVec.smod 32).toNat = 4 * y) (hm : ∀ i, i < 32 → ((15 : Int32) <<< X ^^^ (-1)).toBitVec.getLsbD i = !(decide (4 * x ≤ i) && decide (i < 4 * x + 4))) :
    ((a &&& (15 <<< X ^^^ (-1))) ||| ((v &&& 15) <<< X)) >>> Y &&& 15 = if y = x then v &&& 15 else a >>> Y &&& 15 := by
  have e15 : ∀ i, i < 4 → (Int32.toBitVec 15).getLsbD i = true := by decide +kernel
  generalize ((15 : Int32) <<< X ^^^ (-1)) = M at hm ⊢
  have key : ∀ i, i < 4 → (((a &&& M) ||| ((v &&& 15) <<< X)) >>> Y &&& 15).toBitVec.getLsbD i = if y = x then v.toBitVec.getLsbD i else a.toBitVec.getLsbD (4 * y + i) := by
    intro i h4
    have hsi : 4 * y + i < 32 := by omega
    have hi : ¬ 32 ≤ i := by omega
    simp only [Int32.toBitVec_and, Int32.toBitVec_or, Int32.toBitVec_shiftLeft, Int32.toBitVec_shiftRight, BitVec.sshiftRight_eq', BitVec.shiftLeft_eq', BitVec.getLsbD_and, BitVec.getLsbD_or, BitVec.getLsbD_sshiftRight, BitVec.getLsbD_shiftLeft, hX, hY, hm _ hsi, e15 i h4, hsi, if_true, Bool.and_true, hi, decide_false, Bool.not_false, Bool.true_and]
    by_cases hpq : y = x
    · subst hpq
      rw [if_pos rfl, Nat.add_sub_cancel_left]
      have z1 : ¬ (4 * y + i < 4 * y) := by omega
      have z4 : 4 * y ≤ 4 * y + i := by omega
      have z5 : 4 * y + i < 4 * y + 4 := by omega
      rw [decide_eq_true z4, decide_eq_true z5, e15 i h4]
      simp [z1]
    · rw [if_neg hpq]
      rcases Nat.lt_or_ge (4 * y + i) (4 * x) with z | z
      · have z2 : ¬ 4 * x ≤ 4 * y + i := by omega
        simp [z, z2]
      · have z2 : ¬ (4 * y + i < 4 * x + 4) := by omega
        have z3 : 4 ≤ 4 * y + i - 4 * x := by omega
        rw [b15 z3]
        simp [z2]
  apply Int32.toBitVec_inj.mp
  apply BitVec.eq_of_getLsbD_eq
  intro i hi
  rcases Nat.lt_or_ge i 4 with h4 | h4
  · rw [key i h4]
    have hsi : 4 * y + i < 32 := by omega
    have hi2 : ¬ 32 ≤ i := by omega
    by_cases hpq : y = x
    · rw [if_pos hpq, if_pos hpq, Int32.toBitVec_and, BitVec.getLsbD_and, e15 i h4, Bool.and_true]
    · rw [if_neg hpq, if_neg hpq]
      simp only [Int32.toBitVec_and, Int32.toBitVec_shiftRight, BitVec.sshiftRight_eq', BitVec.getLsbD_and, BitVec.getLsbD_sshiftRight, hY, e15 i h4, hsi, if_true, Bool.and_true, hi2, decide_false, Bool.not_false, Bool.true_and]
  · by_cases hpq : y = x
    · rw [if_pos hpq]
      simp only [Int32.toBitVec_and, BitVec.getLsbD_and, b15 h4, Bool.and_false]
    · rw [if_neg hpq]
      simp only [Int32.toBitVec_and, BitVec.getLsbD_and, b15 h4, Bool.and_false]
theorem fgp (a v : Int32) {p q : Nat} (hp : p < 4) (hq : q < 4) : fget (fput a (nI p) v) (nI q) = if q = p then v &&& 15 else fget a (nI q) := by
  have e4 : ∀ p, p < 4 → (((4 : Int32) * nI p &&& 31).toBitVec.smod 32).toNat = 4 * p := by decide +kernel
  have em : ∀ p, p < 4 → ∀ i, i < 32 → ((15 : Int32) <<< (4 * nI p &&& 31) ^^^ (-1)).toBitVec.getLsbD i = !(decide (4 * p ≤ i) && decide (i < 4 * p + 4)) := by decide +kernel
  exact fgp_gen a v _ _ p q hp hq (e4 p hp) (e4 q hq) (em p hp)
/-! ## the scenes -/
theorem bit_and : ∀ s, s < 16 → ∀ k, k < 4 → (nI s &&& ((1 : Int32) <<< (nI k &&& 31)) = 0 ↔ s.testBit k = false) := by decide +kernel
theorem bit_or : ∀ s, s < 16 → ∀ k, k < 4 → nI s ||| ((1 : Int32) <<< (nI k &&& 31)) = nI (s ||| 1 <<< k) := by decide +kernel
theorem bit_or_lt : ∀ s, s < 16 → ∀ k, k < 4 → s ||| 1 <<< k < 16 := by decide +kernel
theorem n15 : ∀ s, s < 16 → nI s &&& 15 = nI s := by decide +kernel
/-- the scene at r -/
def RS (r : Nat) (h : qH) (S : gS) : Prop := (∀ p, p < S 0 0 → fget (h.1 r 0) (nI p) = nI (S 4 p)) ∧ h.1 r 1 = nI (S 5 0) ∧ h.1 r 2 = nI (S 5 1) ∧ h.1 r 3 = nI (S 5 2) ∧ h.1 r 4 = nI (S 5 3) ∧ h.1 r 7 = nI (S 5 4) ∧ (∀ p, p < S 0 0 → h.1 (r + 1) p = nI (S 6 p)) ∧ ∀ i, i < S 5 4 → h.1 (r + 2) i = nI (16 * S 7 i + S 8 i + 64 * S 9 i)
section QS
variable {d : Nat} {h : qH} {K : qK} {S : gS} {r : Nat}
theorem c_isPair {a b : Int32} (hC : RC h S) (hB : GB S) (ht : ∀ p q, p < S 0 0 → q < S 0 0 → p ≠ q → a = nI p → b = nI q → K (some (.int 1)) h) (hf : (∀ p q, p < S 0 0 → q < S 0 0 → p ≠ q → a = nI p → b = nI q → False) → K (some (.int 0)) h) : qCall (d + 2) 16 [.ref 3, .int a, .int b] h K := by
  refine call_wp (n := 30) (cut := []) _ (by decide) (Nat.lt_succ_self _) rfl rfl (Nat.le_of_ble_eq_true rfl) rfl ?_
  have hn := hB.1
  refine c_isPerson hC hB (fun p hp ep => ?_) (fun hp => ?_)
  · refine And.intro (fun c => absurd c (by decide)) (fun _ => ?_)
    refine c_isPerson hC hB (fun q hq eq => ?_) (fun hq => ?_)
    · refine And.intro (fun c => absurd c (by decide)) (fun _ => ?_)
      refine And.intro (fun c1 => ?_) (fun c1 => ?_)
      · refine ⟨Or.inl rfl, hf (fun p' q' hp' hq' hne e1 e2 => ?_)⟩
        rw [e1, e2, nI_eq (by omega) (by omega)] at c1
        exact hne c1
      · refine ⟨Or.inr rfl, ht p q hp hq (fun z => c1 ?_) ep eq⟩
        rw [ep, eq, z]
    · refine And.intro (fun _ => ?_) (fun c => absurd rfl c)
      exact ⟨Or.inl rfl, hf (fun p' q' hp' hq' hne e1 e2 => hq q' hq' e2)⟩
  · refine And.intro (fun _ => ?_) (fun c => absurd rfl c)
    exact ⟨Or.inl rfl, hf (fun p' q' hp' hq' hne e1 e2 => hp p' hp' e1)⟩
theorem c_isA {p k : Nat} (hC : RC h S) (hB : GB S) (hp : p < S 0 0) (hk : k < 5) (ht : gisA S p k = true → K (some (.int 1)) h) (hf : gisA S p k = false → K (some (.int 0)) h) : qCall (d + 3) 22 [.ref 3, .int (nI p), .int (nI k)] h K := by
  refine call_wp (n := 40) (cut := []) _ (by decide) (Nat.lt_succ_self _) rfl rfl (Nat.le_of_ble_eq_true rfl) rfl ?_
  have hb := (hB.2.1 p hp).1
  refine c_kindOf hC hp ?_
  have e0 : ∀ n, n < 5 → (nI n = (0 : Int32) ↔ n = 0) := by decide +kernel
  have e1 : ∀ n, n < 5 → (nI n = (1 : Int32) ↔ n = 1) := by decide +kernel
  have e4 : ∀ n, n < 5 → (nI n = (4 : Int32) ↔ n = 4) := by decide +kernel
  refine And.intro (fun c1 => ?_) (fun c1 => ?_)
  · have c1 := (e0 k hk).mp c1
    exact ⟨Or.inr rfl, ht (by simp [gisA, c1])⟩
  · have c1 : ¬ k = 0 := fun z => c1 ((e0 k hk).mpr z)
    refine And.intro (fun c2 => ?_) (fun c2 => ?_)
    · have c2 := (nI_eq (by omega) (by omega)).mp c2
      exact ⟨Or.inr rfl, ht (by simp [gisA, c2])⟩
    · have c2 : ¬ k = S 1 p := fun z => c2 ((nI_eq (by omega) (by omega)).mpr z)
      refine And.intro (fun c3 => ?_) (fun c3 => ?_)
      · have c3 := (e1 k hk).mp c3
        refine And.intro (fun c4 => ?_) (fun c4 => ?_)
        · have c4 := (e4 _ hb).mp c4
          exact ⟨Or.inr rfl, ht (by simp [gisA, c3, c4])⟩
        · have c4 : ¬ S 1 p = 4 := fun z => c4 ((e4 _ hb).mpr z)
          exact ⟨Or.inl rfl, hf (by simp [gisA, c1, c2, c4])⟩
      · have c3 : ¬ k = 1 := fun z => c3 ((e1 k hk).mpr z)
        exact ⟨Or.inl rfl, hf (by simp [gisA, c1, c2, c3])⟩
theorem c_knownTo {p : Nat} (hr : r = 5 ∨ r = 11) (hR : RS r h S) (hp : p < S 0 0) (hk : K (some (.int (nI (S 4 p)))) h) : qCall (d + 2) 28 [.ref r, .int (nI p)] h K := by
  rcases hr with rfl | rfl
  all_goals
    refine call_wp (n := 20) (cut := []) _ (by decide) (Nat.lt_succ_self _) rfl rfl (Nat.le_of_ble_eq_true rfl) rfl ?_
    exact c_get (kI hk (hR.1 p hp).symm)
theorem c_knows {p s : Nat} (hr : r = 5 ∨ r = 11) (hR : RS r h S) (hB : GB S) (hp : p < S 0 0) (hs : s < 4) (ht : (S 4 p).testBit s = true → K (some (.int 1)) h) (hf : (S 4 p).testBit s = false → K (some (.int 0)) h) : qCall (d + 3) 29 [.ref r, .int (nI p), .int (nI s)] h K := by
  have hw : wp (d + 2, 29, some .boolean, q0, K) qC29 [] 30 0 [some (.ref r), some (.int (nI p)), some (.int (nI s))] [] h := by
    have hr0 := hr
    rcases hr with rfl | rfl
    all_goals
      refine c_knownTo hr0 hR hp ?_
      refine And.intro (fun c1 => ?_) (fun c1 => ?_)
      · exact ⟨Or.inl rfl, hf ((bit_and _ (hB.2.1 p hp).2.2 s hs).mp c1)⟩
      · refine ⟨Or.inr rfl, ht ?_⟩
        cases hb : (S 4 p).testBit s with
        | true => rfl
        | false => exact absurd ((bit_and _ (hB.2.1 p hp).2.2 s hs).mpr hb) c1
  exact call_wp (d + 2) (by decide) (Nat.lt_succ_self _) rfl rfl (Nat.le_of_ble_eq_true rfl) rfl hw

theorem c_isHanged {p : Nat} (hr : r = 5 ∨ r = 11) (hR : RS r h S) (hB : GB S) (hp : p < 4) (ht : (S 5 0).testBit p = true → K (some (.int 1)) h) (hf : (S 5 0).testBit p = false → K (some (.int 0)) h) : qCall (d + 1) 30 [.ref r, .int (nI p)] h K := by
  rcases hr with rfl | rfl
  all_goals
    refine call_wp (n := 20) (cut := []) _ (by decide) (Nat.lt_succ_self _) rfl rfl (Nat.le_of_ble_eq_true rfl) rfl ?_
    have e := hR.2.1
    refine And.intro (fun c1 => ?_) (fun c1 => ?_)
    · have c1 : h.1 _ 1 &&& (1 <<< (nI p &&& 31)) = 0 := c1
      rw [e] at c1
      exact ⟨Or.inl rfl, hf ((bit_and _ hB.2.2.2.1 p hp).mp c1)⟩
    · have c1 : ¬ h.1 _ 1 &&& (1 <<< (nI p &&& 31)) = 0 := c1
      rw [e] at c1
      refine ⟨Or.inr rfl, ht ?_⟩
      cases hb : (S 5 0).testBit p with
      | true => rfl
      | false => exact absurd ((bit_and _ hB.2.2.2.1 p hp).mpr hb) c1
theorem c_hasSaid {p : Nat} (hr : r = 5 ∨ r = 11) (hR : RS r h S) (hB : GB S) (hp : p < 4) (ht : (S 5 1).testBit p = true → K (some (.int 1)) h) (hf : (S 5 1).testBit p = false → K (some (.int 0)) h) : qCall (d + 1) 31 [.ref r, .int (nI p)] h K := by
  rcases hr with rfl | rfl
  all_goals
    refine call_wp (n := 20) (cut := []) _ (by decide) (Nat.lt_succ_self _) rfl rfl (Nat.le_of_ble_eq_true rfl) rfl ?_
    have e := hR.2.2.1
    refine And.intro (fun c1 => ?_) (fun c1 => ?_)
    · have c1 : h.1 _ 2 &&& (1 <<< (nI p &&& 31)) = 0 := c1
      rw [e] at c1
      exact ⟨Or.inl rfl, hf ((bit_and _ hB.2.2.2.2.1 p hp).mp c1)⟩
    · have c1 : ¬ h.1 _ 2 &&& (1 <<< (nI p &&& 31)) = 0 := c1
      rw [e] at c1
      refine ⟨Or.inr rfl, ht ?_⟩
      cases hb : (S 5 1).testBit p with
      | true => rfl
      | false => exact absurd ((bit_and _ hB.2.2.2.2.1 p hp).mpr hb) c1
theorem c_isForbidden {p : Nat} (hr : r = 5 ∨ r = 11) (hR : RS r h S) (hB : GB S) (hp : p < 4) (ht : (S 5 2).testBit p = true → K (some (.int 1)) h) (hf : (S 5 2).testBit p = false → K (some (.int 0)) h) : qCall (d + 1) 32 [.ref r, .int (nI p)] h K := by
  rcases hr with rfl | rfl
  all_goals
    refine call_wp (n := 20) (cut := []) _ (by decide) (Nat.lt_succ_self _) rfl rfl (Nat.le_of_ble_eq_true rfl) rfl ?_
    have e := hR.2.2.2.1
    refine And.intro (fun c1 => ?_) (fun c1 => ?_)
    · have c1 : h.1 _ 3 &&& (1 <<< (nI p &&& 31)) = 0 := c1
      rw [e] at c1
      exact ⟨Or.inl rfl, hf ((bit_and _ hB.2.2.2.2.2 p hp).mp c1)⟩
    · have c1 : ¬ h.1 _ 3 &&& (1 <<< (nI p &&& 31)) = 0 := c1
      rw [e] at c1
      refine ⟨Or.inr rfl, ht ?_⟩
      cases hb : (S 5 2).testBit p with
      | true => rfl
      | false => exact absurd ((bit_and _ hB.2.2.2.2.2 p hp).mpr hb) c1
theorem c_canTell {f t s : Nat} (hr : r = 5 ∨ r = 11) (hR : RS r h S) (hB : GB S) (hf : f < S 0 0) (ht : t < S 0 0) (hs : s < 4) (k1 : gcan S f t s = true → K (some (.int 1)) h) (k0 : gcan S f t s = false → K (some (.int 0)) h) : qCall (d + 4) 37 [.ref r, .int (nI f), .int (nI t), .int (nI s)] h K := by
  have hn := hB.1
  have hr0 := hr
  rcases hr with rfl | rfl
  all_goals
    refine call_wp (n := 60) (cut := []) _ (by decide) (Nat.lt_succ_self _) rfl rfl (Nat.le_of_ble_eq_true rfl) rfl ?_
    refine And.intro (fun c1 => ?_) (fun c1 => ?_)
    · have c1 := (nI_eq (by omega) (by omega)).mp c1
      exact ⟨Or.inl rfl, k0 (by simp [gcan, c1])⟩
    · have c1 : ¬ f = t := fun z => c1 (by rw [z])
      refine c_knows hr0 hR hB hf hs (fun b1 => ?_) (fun b1 => ?_)
      · refine And.intro (fun c => absurd c (by decide)) (fun _ => ?_)
        refine c_knows hr0 hR hB ht hs (fun b2 => ?_) (fun b2 => ?_)
        · refine And.intro (fun c => absurd c (by decide)) (fun _ => ?_)
          exact ⟨Or.inl rfl, k0 (by simp [gcan, b2])⟩
        · refine And.intro (fun _ => ?_) (fun c => absurd rfl c)
          refine c_isHanged hr0 hR hB (by omega) (fun b3 => ?_) (fun b3 => ?_)
          · refine And.intro (fun c => absurd c (by decide)) (fun _ => ?_)
            exact ⟨Or.inl rfl, k0 (by simp [gcan, b3])⟩
          · refine And.intro (fun _ => ?_) (fun c => absurd rfl c)
            refine c_isHanged hr0 hR hB (by omega) (fun b4 => ?_) (fun b4 => ?_)
            · refine And.intro (fun c => absurd c (by decide)) (fun _ => ?_)
              exact ⟨Or.inl rfl, k0 (by simp [gcan, b4])⟩
            · refine And.intro (fun _ => ?_) (fun c => absurd rfl c)
              exact ⟨Or.inr rfl, k1 (by simp [gcan, c1, b1, b2, b3, b4])⟩
      · refine And.intro (fun _ => ?_) (fun c => absurd rfl c)
        exact ⟨Or.inl rfl, k0 (by simp [gcan, b1])⟩
theorem c_makesInfer {t s : Nat} (hr : r = 5 ∨ r = 11) (hC : RC h S) (hR : RS r h S) (hB : GB S) (ht : t < S 0 0) (hs : s < 4) (k1 : gnew S t s = true → K (some (.int 1)) h) (k0 : gnew S t s = false → K (some (.int 0)) h) : qCall (d + 3) 38 [.ref r, .ref 3, .int (nI t), .int (nI s)] h K := by
  have hk := (hB.2.1 t ht).2.2
  have hr0 := hr
  rcases hr with rfl | rfl
  all_goals
    refine call_wp (n := 60) (cut := []) _ (by decide) (Nat.lt_succ_self _) rfl rfl (Nat.le_of_ble_eq_true rfl) rfl ?_
    refine c_knownTo hr0 hR ht ?_
    refine c_infers hC hB ht hk (fun b1 => ?_) (fun b1 => ?_)
    · refine And.intro (fun c => absurd c (by decide)) (fun _ => ?_)
      exact ⟨Or.inl rfl, k0 (by simp [gnew, b1])⟩
    · refine And.intro (fun _ => ?_) (fun c => absurd rfl c)
      have e := bit_or _ hk s hs
      show qCall _ 24 [.ref 3, .int (nI t), .int (nI (S 4 t) ||| (1 <<< (nI s &&& 31)))] h _
      rw [e]
      refine c_infers hC hB ht (bit_or_lt _ hk s hs) (fun b2 => ?_) (fun b2 => ?_)
      · refine And.intro (fun c => absurd c (by decide)) (fun _ => ?_)
        exact ⟨Or.inr rfl, k1 (by simp [gnew, b1, b2])⟩
      · refine And.intro (fun _ => ?_) (fun c => absurd rfl c)
        exact ⟨Or.inl rfl, k0 (by simp [gnew, b2])⟩
theorem gisA_2 (S : gS) (p : Nat) : gisA S p 2 = (S 1 p == 2) := by
  unfold gisA
  cases h : (S 1 p == 2) with
  | true => simp [eq_of_beq h]
  | false =>
    have : ¬ (2 = S 1 p) := fun z => by rw [← z] at h; cases h
    simp [this]
theorem gisA_3 (S : gS) (p : Nat) : gisA S p 3 = (S 1 p == 3) := by
  unfold gisA
  cases h : (S 1 p == 3) with
  | true => simp [eq_of_beq h]
  | false =>
    have : ¬ (3 = S 1 p) := fun z => by rw [← z] at h; cases h
    simp [this]
theorem gisA_1 (S : gS) (p : Nat) : gisA S p 1 = gking S p := by
  unfold gisA gking
  cases h : (S 1 p == 1) with
  | true => simp [eq_of_beq h]
  | false =>
    have : ¬ (1 = S 1 p) := fun z => by rw [← z] at h; cases h
    simp [this]
theorem c_hangsTeller {f t s : Nat} (hr : r = 5 ∨ r = 11) (hC : RC h S) (hR : RS r h S) (hB : GB S) (hf : f < S 0 0) (ht : t < S 0 0) (hs : s < 4) (k1 : ghang S f t s = true → K (some (.int 1)) h) (k0 : ghang S f t s = false → K (some (.int 0)) h) : qCall (d + 4) 39 [.ref r, .ref 3, .int (nI f), .int (nI t), .int (nI s)] h K := by
  have hn := hB.1
  have hr0 := hr
  rcases hr with rfl | rfl
  all_goals
    refine call_wp (n := 60) (cut := []) _ (by decide) (Nat.lt_succ_self _) rfl rfl (Nat.le_of_ble_eq_true rfl) rfl ?_
    refine c_isA (k := 2) hC hB hf (by decide) (fun b1 => ?_) (fun b1 => ?_)
    · refine And.intro (fun c => absurd c (by decide)) (fun _ => ?_)
      rw [gisA_2] at b1
      exact ⟨Or.inl rfl, k0 (by simp [ghang, bne, b1])⟩
    · refine And.intro (fun _ => ?_) (fun c => absurd rfl c)
      rw [gisA_2] at b1
      refine c_isForbidden hr0 hR hB hs (fun b2 => ?_) (fun b2 => ?_)
      · refine And.intro (fun c => absurd c (by decide)) (fun _ => ?_)
        refine c_isA (k := 3) hC hB hf (by decide) (fun b3 => ?_) (fun b3 => ?_)
        · refine And.intro (fun c => absurd c (by decide)) (fun _ => ?_)
          rw [gisA_3] at b3
          refine c_isA (k := 1) hC hB ht (by decide) (fun b4 => ?_) (fun b4 => ?_)
          · refine And.intro (fun c => absurd c (by decide)) (fun _ => ?_)
            rw [gisA_1] at b4
            exact ⟨Or.inl rfl, k0 (by simp [ghang, bne, b3, b4])⟩
          · refine And.intro (fun _ => ?_) (fun c => absurd rfl c)
            rw [gisA_1] at b4
            refine c_makesInfer hr0 hC hR hB ht hs (fun b5 => ?_) (fun b5 => ?_)
            · refine And.intro (fun c => absurd c (by decide)) (fun _ => ?_)
              exact ⟨Or.inr rfl, k1 (by simp [ghang, bne, b1, b3, b4, b5])⟩
            · refine And.intro (fun _ => ?_) (fun c => absurd rfl c)
              exact ⟨Or.inl rfl, k0 (by simp [ghang, bne, b1, b3, b4, b5])⟩
        · refine And.intro (fun _ => ?_) (fun c => absurd rfl c)
          rw [gisA_3] at b3
          exact ⟨Or.inr rfl, k1 (by simp [ghang, bne, b1, b2, b3])⟩
      · refine And.intro (fun _ => ?_) (fun c => absurd rfl c)
        refine c_isA (k := 1) hC hB ht (by decide) (fun b4 => ?_) (fun b4 => ?_)
        · refine And.intro (fun c => absurd c (by decide)) (fun _ => ?_)
          rw [gisA_1] at b4
          exact ⟨Or.inl rfl, k0 (by simp [ghang, bne, b2, b4])⟩
        · refine And.intro (fun _ => ?_) (fun c => absurd rfl c)
          rw [gisA_1] at b4
          refine c_makesInfer hr0 hC hR hB ht hs (fun b5 => ?_) (fun b5 => ?_)
          · refine And.intro (fun c => absurd c (by decide)) (fun _ => ?_)
            exact ⟨Or.inr rfl, k1 (by simp [ghang, bne, b1, b2, b4, b5])⟩
          · refine And.intro (fun _ => ?_) (fun c => absurd rfl c)
            exact ⟨Or.inl rfl, k0 (by simp [ghang, bne, b1, b2, b4, b5])⟩
end QS
end
section
/-! ## what a scene is told -/
theorem at_wp {X : qX} {C : List Instr} (cut : List Nat) (n : Nat) (hj : X.2.1 < 139) (hC : qCL.getD X.2.1 [] = C) {i : Nat} {ls : qL} {st : List Value} {h : qH} (hw : wp X C cut n i ls st h) : qAt X i ls st h := wp_at hj hC n i ls st h hw
/-- nothing but these cells' numbers is another -/
def Fr (l : List Nat) (h h' : qH) : Prop := (∀ a, a ∉ l → h'.1 a = h.1 a) ∧ h'.2 = h.2
theorem Fr.rf {l : List Nat} {h : qH} : Fr l h h := ⟨fun _ _ => rfl, rfl⟩
theorem Fr.I {l : List Nat} {h h' : qH} (f : Fr l h h') {r k : Nat} {v : Int32} (hr : r ∈ l) : Fr l h (qI h' r k v) := ⟨fun a ha => by rw [qI_ne (fun z => ha (by rw [z]; exact hr))]; exact f.1 a ha, f.2⟩
theorem Fr.tr {l : List Nat} {h h' h'' : qH} (f : Fr l h h') (g : Fr l h' h'') : Fr l h h'' := ⟨fun a ha => (g.1 a ha).trans (f.1 a ha), g.2.trans f.2⟩
theorem Fr.mono {l l' : List Nat} {h h' : qH} (f : Fr l h h') (hl : ∀ a ∈ l, a ∈ l') : Fr l' h h' := ⟨fun a ha => f.1 a (fun z => ha (hl a z)), f.2⟩
theorem RC.fr {l : List Nat} {h h' : qH} {S : gS} (hC : RC h S) (f : Fr l h h') (h3 : 3 ∉ l) (h4 : 4 ∉ l) : RC h' S := by
  unfold RC at hC ⊢
  rw [f.1 3 h3, f.1 4 h4]
  exact hC
theorem RC.S {h : qH} {S S' : gS} (hC : RC h S) (e : ∀ a, a < 4 → S' a = S a) : RC h S' := by
  unfold RC gtog at hC ⊢
  rw [e 0 (by decide), e 1 (by decide), e 2 (by decide), e 3 (by decide)]
  exact hC
theorem RS.fr {l : List Nat} {h h' : qH} {S : gS} {r : Nat} (hR : RS r h S) (f : Fr l h h') (h0 : r ∉ l) (h1 : r + 1 ∉ l) (h2 : r + 2 ∉ l) : RS r h' S := by
  unfold RS at hR ⊢
  rw [f.1 r h0, f.1 _ h1, f.1 _ h2]
  exact hR
def gpass (S : gS) (f t s : Nat) : gS := fun x y =>
  if x = 4 ∧ y = t then S 4 t ||| 1 <<< s
  else if x = 5 ∧ y = 0 then (if ghang S f t s then S 5 0 ||| 1 <<< f else S 5 0)
  else if x = 5 ∧ y = 1 then (if gnew S t s && gking S t then S 5 1 ||| 1 <<< t else S 5 1)
  else if x = 5 ∧ y = 3 then S 5 3 + 1
  else if x = 6 ∧ y = f then S 6 f + 1
  else S x y
def gpassA (S : gS) (f t s : Nat) : Nat := (if gnew S t s then 1 else 0) + (if ghang S f t s then 2 else 0) + (if gnew S t s && gking S t then 4 else 0)
theorem gpass_S (S : gS) (f t s : Nat) (a : Nat) (ha : a < 4) : gpass S f t s a = S a := by
  funext y
  unfold gpass
  rw [if_neg (by omega), if_neg (by omega), if_neg (by omega), if_neg (by omega), if_neg (by omega)]
theorem gpass_B {S : gS} (hB : GB S) {f t s : Nat} (hf : f < S 0 0) (ht : t < S 0 0) (hs : s < 4) : GB (gpass S f t s) := by
  have hn := hB.1
  unfold GB
  rw [gpass_S S f t s 0 (by decide), gpass_S S f t s 1 (by decide), gpass_S S f t s 2 (by decide), gpass_S S f t s 3 (by decide)]
  refine ⟨hn, fun p hp => ⟨(hB.2.1 p hp).1, (hB.2.1 p hp).2.1, ?_⟩, hB.2.2.1, ?_, ?_, ?_⟩
  · unfold gpass
    by_cases e : p = t
    · rw [if_pos ⟨rfl, e⟩]
      exact bit_or_lt _ (hB.2.1 t ht).2.2 s hs
    · rw [if_neg (fun z => e z.2), if_neg (by omega), if_neg (by omega), if_neg (by omega), if_neg (by omega)]
      exact (hB.2.1 p hp).2.2
  · unfold gpass
    rw [if_neg (by omega), if_pos ⟨rfl, rfl⟩]
    split
    · exact bit_or_lt _ hB.2.2.2.1 f (by omega)
    · exact hB.2.2.2.1
  · unfold gpass
    rw [if_neg (by omega), if_neg (by omega), if_pos ⟨rfl, rfl⟩]
    split
    · exact bit_or_lt _ hB.2.2.2.2.1 t (by omega)
    · exact hB.2.2.2.2.1
  · unfold gpass
    rw [if_neg (by omega), if_neg (by omega), if_neg (by omega), if_neg (by omega), if_neg (by omega)]
    exact hB.2.2.2.2.2
def gsafeN (S : gS) (f t : Nat) : Nat → Nat
  | 0 => 0
  | n + 1 => if gcan S f t n && !ghang S f t n then gsafeN S f t n ||| 1 <<< n else gsafeN S f t n
theorem gsafeN_lt (S : gS) (f t : Nat) : ∀ n, n ≤ 4 → gsafeN S f t n < 16
  | 0, _ => Nat.le_of_ble_eq_true rfl
  | n + 1, h => by
    unfold gsafeN
    split
    · exact bit_or_lt _ (gsafeN_lt S f t n (by omega)) n (by omega)
    · exact gsafeN_lt S f t n (by omega)
section QP
variable {d : Nat} {h : qH} {K : qK} {S : gS} {r : Nat}
theorem l_unp {f t : Nat} (hC : RC h S) (hR : RS 5 h S) (hB : GB S) (hf : f < S 0 0) (ht : t < S 0 0) (hk : K (some (.int (nI (gsafeN S f t 4)))) h) : ∀ m n, n + m = 4 → qAt (d + 4, 40, some .int, q0, K) 4 [some (.ref 5), some (.ref 3), some (.int (nI f)), some (.int (nI t)), some (.int (nI (gsafeN S f t n))), some (.int (nI n))] [] h := by
  intro m
  induction m with
  | zero =>
    intro n hn
    have hn : n = 4 := by omega
    subst hn
    refine at_wp [] 10 (Nat.le_of_ble_eq_true rfl) rfl ?_
    refine And.intro (fun _ => ?_) (fun c => absurd (by decide) c)
    exact hk
  | succ m ih =>
    intro n hn
    refine at_wp [4] 60 (Nat.le_of_ble_eq_true rfl) rfl ?_
    refine And.intro (fun c => absurd c (nI_ge (a := n) (b := 4) (by omega) (by decide))) (fun _ => ?_)
    refine c_canTell (Or.inl rfl) hR hB hf ht (by omega) (fun b1 => ?_) (fun b1 => ?_)
    · refine And.intro (fun c => absurd c (by decide)) (fun _ => ?_)
      refine c_hangsTeller (Or.inl rfl) hC hR hB hf ht (by omega) (fun b2 => ?_) (fun b2 => ?_)
      · refine And.intro (fun c => absurd c (by decide)) (fun _ => ?_)
        show qAt _ 4 [some (.ref 5), some (.ref 3), some (.int (nI f)), some (.int (nI t)), some (.int (nI (gsafeN S f t n))), some (.int (nI n + 1))] [] h
        rw [nI_1]
        have := ih (n + 1) (by omega)
        rw [gsafeN, b1, b2] at this
        exact this
      · refine And.intro (fun _ => ?_) (fun c => absurd rfl c)
        show qAt _ 4 [some (.ref 5), some (.ref 3), some (.int (nI f)), some (.int (nI t)), some (.int (nI (gsafeN S f t n) ||| (1 <<< (nI n &&& 31)))), some (.int (nI n + 1))] [] h
        rw [nI_1, bit_or _ (gsafeN_lt S f t n (by omega)) n (by omega)]
        have := ih (n + 1) (by omega)
        rw [gsafeN, b1, b2] at this
        exact this
    · refine And.intro (fun _ => ?_) (fun c => absurd rfl c)
      show qAt _ 4 [some (.ref 5), some (.ref 3), some (.int (nI f)), some (.int (nI t)), some (.int (nI (gsafeN S f t n))), some (.int (nI n + 1))] [] h
      rw [nI_1]
      have := ih (n + 1) (by omega)
      rw [gsafeN, b1] at this
      exact this
theorem c_unpunished {f t : Nat} (hC : RC h S) (hR : RS 5 h S) (hB : GB S) (hf : f < S 0 0) (ht : t < S 0 0) (hk : K (some (.int (nI (gsafeN S f t 4)))) h) : qCall (d + 5) 40 [.ref 5, .ref 3, .int (nI f), .int (nI t)] h K := by
  refine call_wp (n := 4) (cut := []) _ (by decide) (Nat.lt_succ_self _) rfl rfl (Nat.le_of_ble_eq_true rfl) rfl ?_
  exact l_unp hC hR hB hf ht hk 4 0 rfl
theorem c_learn {p s : Nat} (hr : r = 5 ∨ r = 11) (hR : RS r h S) (hB : GB S) (hp : p < S 0 0) (hs : s < 4) (hk : K none (qI h r 0 (fput (h.1 r 0) (nI p) (nI (S 4 p ||| 1 <<< s))))) : qCall (d + 3) 36 [.ref r, .int (nI p), .int (nI s)] h K := by
  have hr0 := hr
  rcases hr with rfl | rfl
  all_goals
    refine call_wp (n := 30) (cut := []) _ (by decide) (Nat.lt_succ_self _) rfl rfl (Nat.le_of_ble_eq_true rfl) rfl ?_
    refine c_knownTo hr0 hR hp ?_
    refine c_put ?_
    rw [← bit_or _ (hB.2.1 p hp).2.2 s hs] at hk
    exact hk
theorem fput_rel {S : gS} {f t s : Nat} {a : Int32} (hB : GB S) (ht : t < S 0 0) (hs : s < 4) (ha : ∀ p, p < S 0 0 → fget a (nI p) = nI (S 4 p)) : ∀ p, p < S 0 0 → fget (fput a (nI t) (nI (S 4 t ||| 1 <<< s))) (nI p) = nI (gpass S f t s 4 p) := by
  intro p hp
  have hn := hB.1
  rw [fgp _ _ (by omega) (by omega)]
  unfold gpass
  by_cases e : p = t
  · rw [if_pos e, if_pos ⟨rfl, e⟩, n15 _ (bit_or_lt _ (hB.2.1 t ht).2.2 s hs)]
  · rw [if_neg e, if_neg (fun z => e z.2), if_neg (by omega), if_neg (by omega), if_neg (by omega), if_neg (by omega)]
    exact ha p hp
end QP
end
section
/-! ## a word told -/
def ph (h : qH) (r f t : Nat) (kv : Int32) (hb sb : Bool) : qH :=
  let h1 := qI h r 0 (fput (h.1 r 0) (nI t) kv)
  let h2 := qI h1 r 4 (h1.1 r 4 + 1)
  let h3 := qI h2 (r + 1) (nI f).toNatClampNeg (h2.1 (r + 1) (nI f).toNatClampNeg + 1)
  let h4 := match hb with
    | true => qI h3 r 1 (h3.1 r 1 ||| (1 <<< (nI f &&& 31)))
    | false => h3
  match sb with
    | true => qI h4 r 2 (h4.1 r 2 ||| (1 <<< (nI t &&& 31)))
    | false => h4
theorem ph_fr {h : qH} {r f t : Nat} {kv : Int32} {hb sb : Bool} : Fr [r, r + 1] h (ph h r f t kv hb sb) := by
  have m0 : r ∈ [r, r + 1] := List.mem_cons_self
  have m1 : r + 1 ∈ [r, r + 1] := List.mem_cons_of_mem _ List.mem_cons_self
  unfold ph
  cases hb <;> cases sb
  · exact ((Fr.rf.I m0).I m0).I m1
  · exact (((Fr.rf.I m0).I m0).I m1).I m0
  · exact (((Fr.rf.I m0).I m0).I m1).I m0
  · exact ((((Fr.rf.I m0).I m0).I m1).I m0).I m0
theorem qI_get (h : qH) (r k : Nat) (v : Int32) (a b : Nat) : (qI h r k v).1 a b = if a = r ∧ b = k then v else h.1 a b := rfl
section QPH
variable {d : Nat} {h : qH} {K : qK} {S : gS} {r : Nat}
theorem ph_rel {f t s : Nat} {hb sb : Bool} (hr : r = 5 ∨ r = 11) (hR : RS r h S) (hB : GB S) (hf : f < S 0 0) (ht : t < S 0 0) (hs : s < 4) (e1 : ghang S f t s = hb) (e2 : (gnew S t s && gking S t) = sb) : RS r (ph h r f t (nI (S 4 t ||| 1 <<< s)) hb sb) (gpass S f t s) := by
  have hn := hB.1
  have z0 : (ph h r f t (nI (S 4 t ||| 1 <<< s)) hb sb).1 r 0 = fput (h.1 r 0) (nI t) (nI (S 4 t ||| 1 <<< s)) := by
    rcases hr with rfl | rfl <;> cases hb <;> cases sb <;> simp [ph, qI_get]
  have z1 : (ph h r f t (nI (S 4 t ||| 1 <<< s)) hb sb).1 r 1 = if hb then h.1 r 1 ||| (1 <<< (nI f &&& 31)) else h.1 r 1 := by
    rcases hr with rfl | rfl <;> cases hb <;> cases sb <;> simp [ph, qI_get]
  have z2 : (ph h r f t (nI (S 4 t ||| 1 <<< s)) hb sb).1 r 2 = if sb then h.1 r 2 ||| (1 <<< (nI t &&& 31)) else h.1 r 2 := by
    rcases hr with rfl | rfl <;> cases hb <;> cases sb <;> simp [ph, qI_get]
  have z3 : (ph h r f t (nI (S 4 t ||| 1 <<< s)) hb sb).1 r 3 = h.1 r 3 := by
    rcases hr with rfl | rfl <;> cases hb <;> cases sb <;> simp [ph, qI_get]
  have z4 : (ph h r f t (nI (S 4 t ||| 1 <<< s)) hb sb).1 r 4 = h.1 r 4 + 1 := by
    rcases hr with rfl | rfl <;> cases hb <;> cases sb <;> simp [ph, qI_get]
  have z7 : (ph h r f t (nI (S 4 t ||| 1 <<< s)) hb sb).1 r 7 = h.1 r 7 := by
    rcases hr with rfl | rfl <;> cases hb <;> cases sb <;> simp [ph, qI_get]
  have zw : ∀ p, (ph h r f t (nI (S 4 t ||| 1 <<< s)) hb sb).1 (r + 1) p = if p = f then h.1 (r + 1) f + 1 else h.1 (r + 1) p := by
    intro p
    have ec : (nI f).toNatClampNeg = f := nI_clamp (by omega)
    rcases hr with rfl | rfl <;> cases hb <;> cases sb <;> simp [ph, qI_get, ec]
  have zq : (ph h r f t (nI (S 4 t ||| 1 <<< s)) hb sb).1 (r + 2) = h.1 (r + 2) := ph_fr.1 (r + 2) (by simp)
  have g0 : gpass S f t s 0 = S 0 := gpass_S S f t s 0 (by decide)
  have g7 : gpass S f t s 7 = S 7 := by
    funext y
    unfold gpass
    rw [if_neg (by omega), if_neg (by omega), if_neg (by omega), if_neg (by omega), if_neg (by omega)]
  have g8 : gpass S f t s 8 = S 8 := by
    funext y
    unfold gpass
    rw [if_neg (by omega), if_neg (by omega), if_neg (by omega), if_neg (by omega), if_neg (by omega)]
  have g9 : gpass S f t s 9 = S 9 := by
    funext y
    unfold gpass
    rw [if_neg (by omega), if_neg (by omega), if_neg (by omega), if_neg (by omega), if_neg (by omega)]
  have g54 : gpass S f t s 5 4 = S 5 4 := by
    unfold gpass
    rw [if_neg (by omega), if_neg (by omega), if_neg (by omega), if_neg (by omega), if_neg (by omega)]
  have g52 : gpass S f t s 5 2 = S 5 2 := by
    unfold gpass
    rw [if_neg (by omega), if_neg (by omega), if_neg (by omega), if_neg (by omega), if_neg (by omega)]
  have g53 : gpass S f t s 5 3 = S 5 3 + 1 := by
    unfold gpass
    rw [if_neg (by omega), if_neg (by omega), if_neg (by omega), if_pos ⟨rfl, rfl⟩]
  have g50 : gpass S f t s 5 0 = if hb then S 5 0 ||| 1 <<< f else S 5 0 := by
    unfold gpass
    rw [if_neg (by omega), if_pos ⟨rfl, rfl⟩, e1]
  have g51 : gpass S f t s 5 1 = if sb then S 5 1 ||| 1 <<< t else S 5 1 := by
    unfold gpass
    rw [if_neg (by omega), if_neg (by omega), if_pos ⟨rfl, rfl⟩, e2]
  have g6 : ∀ p, gpass S f t s 6 p = if p = f then S 6 f + 1 else S 6 p := by
    intro p
    unfold gpass
    rw [if_neg (by omega), if_neg (by omega), if_neg (by omega), if_neg (by omega)]
    by_cases e : p = f
    · rw [if_pos ⟨rfl, e⟩, if_pos e]
    · rw [if_neg (fun z => e z.2), if_neg e]
  obtain ⟨r0, r1, r2, r3, r4, r7, r6, rq⟩ := hR
  unfold RS
  rw [z0, z1, z2, z3, z4, z7, zq, g0, g7, g8, g9, g54, g52, g53, g50, g51, r1, r2, r3, r4, r7]
  refine ⟨fput_rel hB ht hs r0, ?_, ?_, rfl, nI_1 _, rfl, fun p hp => ?_, rq⟩
  · cases hb
    · rfl
    · exact bit_or _ hB.2.2.2.1 f (by omega)
  · cases sb
    · rfl
    · exact bit_or _ hB.2.2.2.2.1 t (by omega)
  · rw [zw, g6]
    by_cases e : p = f
    · rw [if_pos e, if_pos e, r6 f hf]
      exact nI_1 _
    · rw [if_neg e, if_neg e]
      exact r6 p hp

theorem c_pass {f t s : Nat} (hr : r = 5 ∨ r = 11) (hC : RC h S) (hR : RS r h S) (hB : GB S) (hf : f < S 0 0) (ht : t < S 0 0) (hs : s < 4) (hk : ∀ h', Fr [r, r + 1] h h' → RS r h' (gpass S f t s) → K (some (.int (nI (gpassA S f t s)))) h') : qCall (d + 5) 41 [.ref r, .ref 3, .int (nI f), .int (nI t), .int (nI s)] h K := by
  have hn := hB.1
  have hr0 := hr
  rcases hr with rfl | rfl
  · refine call_wp (n := 140) (cut := []) _ (by decide) (Nat.lt_succ_self _) rfl rfl (Nat.le_of_ble_eq_true rfl) rfl ?_
    refine c_makesInfer hr0 hC hR hB ht hs (fun b1 => ?_) (fun b1 => ?_)
    · refine c_hangsTeller hr0 hC hR hB hf ht hs (fun b2 => ?_) (fun b2 => ?_)
      · refine And.intro (fun c => absurd c (by decide)) (fun _ => ?_)
        refine c_isA (k := 1) hC hB ht (by decide) (fun b3 => ?_) (fun b3 => ?_)
        · rw [gisA_1] at b3
          refine And.intro (fun c => absurd c (by decide)) (fun _ => ?_)
          refine c_learn hr0 hR hB ht hs ?_
          refine And.intro (fun c => absurd c (nI_pos (by omega))) (fun _ => ?_)
          refine And.intro (fun c => absurd c (nI_ge (a := f) (b := 4) (by omega) (by decide))) (fun _ => ?_)
          refine And.intro (vp_in_nI (by omega) (by decide)) ?_
          refine And.intro (vp_in_nI (by omega) (by decide)) ?_
          refine And.intro (fun c => absurd c (by decide)) (fun _ => ?_)
          refine And.intro (fun c => absurd c (by decide)) (fun _ => ?_)
          refine And.intro (fun c => absurd c (by decide)) (fun _ => ?_)
          refine And.intro (fun c => absurd c (by decide)) (fun _ => ?_)
          refine And.intro (fun c => absurd c (by decide)) (fun _ => ?_)
          show K (some (.int _)) (ph h 5 f t (nI (S 4 t ||| 1 <<< s)) true true)
          exact kI (hk _ ph_fr (ph_rel (hb := true) (sb := true) hr0 hR hB hf ht hs b2 (by simp [b1, b3]))) (by unfold gpassA; rw [b1, b2, b3]; rfl)
        · rw [gisA_1] at b3
          refine And.intro (fun _ => ?_) (fun c => absurd rfl c)
          refine c_learn hr0 hR hB ht hs ?_
          refine And.intro (fun c => absurd c (nI_pos (by omega))) (fun _ => ?_)
          refine And.intro (fun c => absurd c (nI_ge (a := f) (b := 4) (by omega) (by decide))) (fun _ => ?_)
          refine And.intro (vp_in_nI (by omega) (by decide)) ?_
          refine And.intro (vp_in_nI (by omega) (by decide)) ?_
          refine And.intro (fun c => absurd c (by decide)) (fun _ => ?_)
          refine And.intro (fun _ => ?_) (fun c => absurd rfl c)
          refine And.intro (fun c => absurd c (by decide)) (fun _ => ?_)
          refine And.intro (fun c => absurd c (by decide)) (fun _ => ?_)
          refine And.intro (fun _ => ?_) (fun c => absurd rfl c)
          show K (some (.int _)) (ph h 5 f t (nI (S 4 t ||| 1 <<< s)) true false)
          exact kI (hk _ ph_fr (ph_rel (hb := true) (sb := false) hr0 hR hB hf ht hs b2 (by simp [b1, b3]))) (by unfold gpassA; rw [b1, b2, b3]; rfl)
      · refine And.intro (fun c => absurd c (by decide)) (fun _ => ?_)
        refine c_isA (k := 1) hC hB ht (by decide) (fun b3 => ?_) (fun b3 => ?_)
        · rw [gisA_1] at b3
          refine And.intro (fun c => absurd c (by decide)) (fun _ => ?_)
          refine c_learn hr0 hR hB ht hs ?_
          refine And.intro (fun c => absurd c (nI_pos (by omega))) (fun _ => ?_)
          refine And.intro (fun c => absurd c (nI_ge (a := f) (b := 4) (by omega) (by decide))) (fun _ => ?_)
          refine And.intro (vp_in_nI (by omega) (by decide)) ?_
          refine And.intro (vp_in_nI (by omega) (by decide)) ?_
          refine And.intro (fun _ => ?_) (fun c => absurd rfl c)
          refine And.intro (fun c => absurd c (by decide)) (fun _ => ?_)
          refine And.intro (fun c => absurd c (by decide)) (fun _ => ?_)
          refine And.intro (fun _ => ?_) (fun c => absurd rfl c)
          refine And.intro (fun c => absurd c (by decide)) (fun _ => ?_)
          show K (some (.int _)) (ph h 5 f t (nI (S 4 t ||| 1 <<< s)) false true)
          exact kI (hk _ ph_fr (ph_rel (hb := false) (sb := true) hr0 hR hB hf ht hs b2 (by simp [b1, b3]))) (by unfold gpassA; rw [b1, b2, b3]; rfl)
        · rw [gisA_1] at b3
          refine And.intro (fun _ => ?_) (fun c => absurd rfl c)
          refine c_learn hr0 hR hB ht hs ?_
          refine And.intro (fun c => absurd c (nI_pos (by omega))) (fun _ => ?_)
          refine And.intro (fun c => absurd c (nI_ge (a := f) (b := 4) (by omega) (by decide))) (fun _ => ?_)
          refine And.intro (vp_in_nI (by omega) (by decide)) ?_
          refine And.intro (vp_in_nI (by omega) (by decide)) ?_
          refine And.intro (fun _ => ?_) (fun c => absurd rfl c)
          refine And.intro (fun _ => ?_) (fun c => absurd rfl c)
          refine And.intro (fun c => absurd c (by decide)) (fun _ => ?_)
          refine And.intro (fun _ => ?_) (fun c => absurd rfl c)
          refine And.intro (fun _ => ?_) (fun c => absurd rfl c)
          show K (some (.int _)) (ph h 5 f t (nI (S 4 t ||| 1 <<< s)) false false)
          exact kI (hk _ ph_fr (ph_rel (hb := false) (sb := false) hr0 hR hB hf ht hs b2 (by simp [b1, b3]))) (by unfold gpassA; rw [b1, b2, b3]; rfl)
    · refine c_hangsTeller hr0 hC hR hB hf ht hs (fun b2 => ?_) (fun b2 => ?_)
      · refine And.intro (fun _ => ?_) (fun c => absurd rfl c)
        refine c_learn hr0 hR hB ht hs ?_
        refine And.intro (fun c => absurd c (nI_pos (by omega))) (fun _ => ?_)
        refine And.intro (fun c => absurd c (nI_ge (a := f) (b := 4) (by omega) (by decide))) (fun _ => ?_)
        refine And.intro (vp_in_nI (by omega) (by decide)) ?_
        refine And.intro (vp_in_nI (by omega) (by decide)) ?_
        refine And.intro (fun c => absurd c (by decide)) (fun _ => ?_)
        refine And.intro (fun _ => ?_) (fun c => absurd rfl c)
        refine And.intro (fun _ => ?_) (fun c => absurd rfl c)
        refine And.intro (fun c => absurd c (by decide)) (fun _ => ?_)
        refine And.intro (fun _ => ?_) (fun c => absurd rfl c)
        show K (some (.int _)) (ph h 5 f t (nI (S 4 t ||| 1 <<< s)) true false)
        exact kI (hk _ ph_fr (ph_rel (hb := true) (sb := false) hr0 hR hB hf ht hs b2 (by simp [b1]))) (by unfold gpassA; rw [b1, b2]; rfl)
      · refine And.intro (fun _ => ?_) (fun c => absurd rfl c)
        refine c_learn hr0 hR hB ht hs ?_
        refine And.intro (fun c => absurd c (nI_pos (by omega))) (fun _ => ?_)
        refine And.intro (fun c => absurd c (nI_ge (a := f) (b := 4) (by omega) (by decide))) (fun _ => ?_)
        refine And.intro (vp_in_nI (by omega) (by decide)) ?_
        refine And.intro (vp_in_nI (by omega) (by decide)) ?_
        refine And.intro (fun _ => ?_) (fun c => absurd rfl c)
        refine And.intro (fun _ => ?_) (fun c => absurd rfl c)
        refine And.intro (fun _ => ?_) (fun c => absurd rfl c)
        refine And.intro (fun _ => ?_) (fun c => absurd rfl c)
        refine And.intro (fun _ => ?_) (fun c => absurd rfl c)
        show K (some (.int _)) (ph h 5 f t (nI (S 4 t ||| 1 <<< s)) false false)
        exact kI (hk _ ph_fr (ph_rel (hb := false) (sb := false) hr0 hR hB hf ht hs b2 (by simp [b1]))) (by unfold gpassA; rw [b1, b2]; rfl)
  · refine call_wp (n := 140) (cut := []) _ (by decide) (Nat.lt_succ_self _) rfl rfl (Nat.le_of_ble_eq_true rfl) rfl ?_
    refine c_makesInfer hr0 hC hR hB ht hs (fun b1 => ?_) (fun b1 => ?_)
    · refine c_hangsTeller hr0 hC hR hB hf ht hs (fun b2 => ?_) (fun b2 => ?_)
      · refine And.intro (fun c => absurd c (by decide)) (fun _ => ?_)
        refine c_isA (k := 1) hC hB ht (by decide) (fun b3 => ?_) (fun b3 => ?_)
        · rw [gisA_1] at b3
          refine And.intro (fun c => absurd c (by decide)) (fun _ => ?_)
          refine c_learn hr0 hR hB ht hs ?_
          refine And.intro (fun c => absurd c (nI_pos (by omega))) (fun _ => ?_)
          refine And.intro (fun c => absurd c (nI_ge (a := f) (b := 4) (by omega) (by decide))) (fun _ => ?_)
          refine And.intro (vp_in_nI (by omega) (by decide)) ?_
          refine And.intro (vp_in_nI (by omega) (by decide)) ?_
          refine And.intro (fun c => absurd c (by decide)) (fun _ => ?_)
          refine And.intro (fun c => absurd c (by decide)) (fun _ => ?_)
          refine And.intro (fun c => absurd c (by decide)) (fun _ => ?_)
          refine And.intro (fun c => absurd c (by decide)) (fun _ => ?_)
          refine And.intro (fun c => absurd c (by decide)) (fun _ => ?_)
          show K (some (.int _)) (ph h 11 f t (nI (S 4 t ||| 1 <<< s)) true true)
          exact kI (hk _ ph_fr (ph_rel (hb := true) (sb := true) hr0 hR hB hf ht hs b2 (by simp [b1, b3]))) (by unfold gpassA; rw [b1, b2, b3]; rfl)
        · rw [gisA_1] at b3
          refine And.intro (fun _ => ?_) (fun c => absurd rfl c)
          refine c_learn hr0 hR hB ht hs ?_
          refine And.intro (fun c => absurd c (nI_pos (by omega))) (fun _ => ?_)
          refine And.intro (fun c => absurd c (nI_ge (a := f) (b := 4) (by omega) (by decide))) (fun _ => ?_)
          refine And.intro (vp_in_nI (by omega) (by decide)) ?_
          refine And.intro (vp_in_nI (by omega) (by decide)) ?_
          refine And.intro (fun c => absurd c (by decide)) (fun _ => ?_)
          refine And.intro (fun _ => ?_) (fun c => absurd rfl c)
          refine And.intro (fun c => absurd c (by decide)) (fun _ => ?_)
          refine And.intro (fun c => absurd c (by decide)) (fun _ => ?_)
          refine And.intro (fun _ => ?_) (fun c => absurd rfl c)
          show K (some (.int _)) (ph h 11 f t (nI (S 4 t ||| 1 <<< s)) true false)
          exact kI (hk _ ph_fr (ph_rel (hb := true) (sb := false) hr0 hR hB hf ht hs b2 (by simp [b1, b3]))) (by unfold gpassA; rw [b1, b2, b3]; rfl)
      · refine And.intro (fun c => absurd c (by decide)) (fun _ => ?_)
        refine c_isA (k := 1) hC hB ht (by decide) (fun b3 => ?_) (fun b3 => ?_)
        · rw [gisA_1] at b3
          refine And.intro (fun c => absurd c (by decide)) (fun _ => ?_)
          refine c_learn hr0 hR hB ht hs ?_
          refine And.intro (fun c => absurd c (nI_pos (by omega))) (fun _ => ?_)
          refine And.intro (fun c => absurd c (nI_ge (a := f) (b := 4) (by omega) (by decide))) (fun _ => ?_)
          refine And.intro (vp_in_nI (by omega) (by decide)) ?_
          refine And.intro (vp_in_nI (by omega) (by decide)) ?_
          refine And.intro (fun _ => ?_) (fun c => absurd rfl c)
          refine And.intro (fun c => absurd c (by decide)) (fun _ => ?_)
          refine And.intro (fun c => absurd c (by decide)) (fun _ => ?_)
          refine And.intro (fun _ => ?_) (fun c => absurd rfl c)
          refine And.intro (fun c => absurd c (by decide)) (fun _ => ?_)
          show K (some (.int _)) (ph h 11 f t (nI (S 4 t ||| 1 <<< s)) false true)
          exact kI (hk _ ph_fr (ph_rel (hb := false) (sb := true) hr0 hR hB hf ht hs b2 (by simp [b1, b3]))) (by unfold gpassA; rw [b1, b2, b3]; rfl)
        · rw [gisA_1] at b3
          refine And.intro (fun _ => ?_) (fun c => absurd rfl c)
          refine c_learn hr0 hR hB ht hs ?_
          refine And.intro (fun c => absurd c (nI_pos (by omega))) (fun _ => ?_)
          refine And.intro (fun c => absurd c (nI_ge (a := f) (b := 4) (by omega) (by decide))) (fun _ => ?_)
          refine And.intro (vp_in_nI (by omega) (by decide)) ?_
          refine And.intro (vp_in_nI (by omega) (by decide)) ?_
          refine And.intro (fun _ => ?_) (fun c => absurd rfl c)
          refine And.intro (fun _ => ?_) (fun c => absurd rfl c)
          refine And.intro (fun c => absurd c (by decide)) (fun _ => ?_)
          refine And.intro (fun _ => ?_) (fun c => absurd rfl c)
          refine And.intro (fun _ => ?_) (fun c => absurd rfl c)
          show K (some (.int _)) (ph h 11 f t (nI (S 4 t ||| 1 <<< s)) false false)
          exact kI (hk _ ph_fr (ph_rel (hb := false) (sb := false) hr0 hR hB hf ht hs b2 (by simp [b1, b3]))) (by unfold gpassA; rw [b1, b2, b3]; rfl)
    · refine c_hangsTeller hr0 hC hR hB hf ht hs (fun b2 => ?_) (fun b2 => ?_)
      · refine And.intro (fun _ => ?_) (fun c => absurd rfl c)
        refine c_learn hr0 hR hB ht hs ?_
        refine And.intro (fun c => absurd c (nI_pos (by omega))) (fun _ => ?_)
        refine And.intro (fun c => absurd c (nI_ge (a := f) (b := 4) (by omega) (by decide))) (fun _ => ?_)
        refine And.intro (vp_in_nI (by omega) (by decide)) ?_
        refine And.intro (vp_in_nI (by omega) (by decide)) ?_
        refine And.intro (fun c => absurd c (by decide)) (fun _ => ?_)
        refine And.intro (fun _ => ?_) (fun c => absurd rfl c)
        refine And.intro (fun _ => ?_) (fun c => absurd rfl c)
        refine And.intro (fun c => absurd c (by decide)) (fun _ => ?_)
        refine And.intro (fun _ => ?_) (fun c => absurd rfl c)
        show K (some (.int _)) (ph h 11 f t (nI (S 4 t ||| 1 <<< s)) true false)
        exact kI (hk _ ph_fr (ph_rel (hb := true) (sb := false) hr0 hR hB hf ht hs b2 (by simp [b1]))) (by unfold gpassA; rw [b1, b2]; rfl)
      · refine And.intro (fun _ => ?_) (fun c => absurd rfl c)
        refine c_learn hr0 hR hB ht hs ?_
        refine And.intro (fun c => absurd c (nI_pos (by omega))) (fun _ => ?_)
        refine And.intro (fun c => absurd c (nI_ge (a := f) (b := 4) (by omega) (by decide))) (fun _ => ?_)
        refine And.intro (vp_in_nI (by omega) (by decide)) ?_
        refine And.intro (vp_in_nI (by omega) (by decide)) ?_
        refine And.intro (fun _ => ?_) (fun c => absurd rfl c)
        refine And.intro (fun _ => ?_) (fun c => absurd rfl c)
        refine And.intro (fun _ => ?_) (fun c => absurd rfl c)
        refine And.intro (fun _ => ?_) (fun c => absurd rfl c)
        refine And.intro (fun _ => ?_) (fun c => absurd rfl c)
        show K (some (.int _)) (ph h 11 f t (nI (S 4 t ||| 1 <<< s)) false false)
        exact kI (hk _ ph_fr (ph_rel (hb := false) (sb := false) hr0 hR hB hf ht hs b2 (by simp [b1]))) (by unfold gpassA; rw [b1, b2]; rfl)
end QPH
end
section
/-! ## what is asked, what may be told, how many infer -/
def sS (S : gS) (a b v : Nat) : gS := fun x y => if x = a ∧ y = b then v else S x y
theorem sS_ne {S : gS} {a b v x : Nat} (h : x ≠ a) : sS S a b v x = S x := by
  funext y
  unfold sS
  rw [if_neg (fun z => h z.1)]
theorem sS_eq {S : gS} {a b v : Nat} : sS S a b v a b = v := by
  unfold sS
  rw [if_pos ⟨rfl, rfl⟩]
theorem sS_nb {S : gS} {a b v x y : Nat} (h : y ≠ b) : sS S a b v x y = S x y := by
  unfold sS
  rw [if_neg (fun z => h z.2)]
def gclr (x s : Nat) : Nat := if x.testBit s then x - 1 <<< s else x
def gfb (S : gS) (s : Nat) (is : Bool) : Nat := if is then S 5 2 ||| 1 <<< s else gclr (S 5 2) s
theorem bit_clr : ∀ x, x < 16 → ∀ s, s < 4 → nI x &&& ((1 : Int32) <<< (nI s &&& 31) ^^^ (-1)) = nI (gclr x s) := by decide +kernel
theorem gclr_lt : ∀ x, x < 16 → ∀ s, s < 4 → gclr x s < 16 := by decide +kernel
theorem gfb_lt {S : gS} (hB : GB S) {s : Nat} (hs : s < 4) (is : Bool) : gfb S s is < 16 := by
  unfold gfb
  split
  · exact bit_or_lt _ hB.2.2.2.2.2 s hs
  · exact gclr_lt _ hB.2.2.2.2.2 s hs
def GA (S : gS) : Prop := S 5 4 ≤ 6 ∧ ∀ i, i < S 5 4 → S 7 i < S 0 0 ∧ S 8 i < 16 ∧ S 9 i < 2
def ginfN (S : gS) : Nat → Nat
  | 0 => 0
  | n + 1 => if ginf S n (S 4 n) then ginfN S n + 1 else ginfN S n
/-- which amounts of a sign would make it so, T known by the others, E wanted -/
def gamtF (E T : Nat) (b : Bool) : Nat → Nat
  | 0 => 0
  | v + 1 => gamtF E T b v + (if E ≤ T + (if b then v + 1 else 0) then 2 ^ v else 0)
theorem amt_t : ∀ E, E < 12 → ∀ T, T < 40 → (511 : Int32) &&& ((-1) <<< ((if 0 < (if nI E - nI T - 1 < 9 then nI E - nI T - 1 else 9) then (if nI E - nI T - 1 < 9 then nI E - nI T - 1 else 9) else 0) &&& 31)) = nI (gamtF E T true 9) := by decide +kernel
theorem amt_f : ∀ E, E < 12 → ∀ T, T < 40 → (if nI E - nI T ≤ (0 : Int32) then (511 : Int32) else 0) = nI (gamtF E T false 9) := by decide +kernel
theorem gamtF_lt (E T : Nat) (b : Bool) : ∀ v, gamtF E T b v < 2 ^ v
  | 0 => by unfold gamtF; decide
  | v + 1 => by
    have := gamtF_lt E T b v
    unfold gamtF
    have h2 : 2 ^ (v + 1) = 2 ^ v + 2 ^ v := by rw [Nat.pow_succ]; omega
    have h3 : (if E ≤ T + (if b then v + 1 else 0) then 2 ^ v else 0) ≤ 2 ^ v := by
      by_cases hc : E ≤ T + (if b then v + 1 else 0)
      · rw [if_pos hc]
        exact Nat.le_refl _
      · rw [if_neg hc]
        exact Nat.zero_le _
    omega
def gamt (S : gS) (p sg s : Nat) : Nat := gamtF (gen (S 1 p) (S 2 p)) (gtog S (gclr sg s)) (sg.testBit s) 9
theorem not_and {P a : Nat} (hP : P < 512) (ha : a < 512) : nI P &&& (nI a ^^^ (-1)) = nI (P &&& (511 ^^^ a)) := by
  apply Int32.toBitVec_inj.mp
  apply BitVec.eq_of_getLsbD_eq
  intro i hi
  have e : ∀ n : Nat, (nI n).toBitVec = BitVec.ofNat 32 n := fun n => rfl
  rw [Int32.toBitVec_and, Int32.toBitVec_xor, e, e, e, show (-1 : Int32).toBitVec = BitVec.allOnes 32 by decide, BitVec.getLsbD_and, BitVec.getLsbD_xor, BitVec.getLsbD_ofNat, BitVec.getLsbD_ofNat, BitVec.getLsbD_ofNat, BitVec.getLsbD_allOnes, Nat.testBit_and, Nat.testBit_xor]
  simp only [hi, decide_true, Bool.true_and]
  rcases Nat.lt_or_ge i 9 with h9 | h9
  · have : (511 : Nat).testBit i = true := (by decide : ∀ i, i < 9 → (511 : Nat).testBit i = true) i h9
    rw [this, Bool.xor_comm]
  · have : P.testBit i = false := Nat.testBit_lt_two_pow (Nat.lt_of_lt_of_le hP (Nat.pow_le_pow_right (by decide : 2 > 0) h9))
    rw [this, Bool.false_and, Bool.false_and]
theorem and_and {P a : Nat} (hP : P < 512) (ha : a < 512) : nI P &&& nI a = nI (P &&& a) := by
  apply Int32.toBitVec_inj.mp
  apply BitVec.eq_of_getLsbD_eq
  intro i hi
  have e : ∀ n : Nat, (nI n).toBitVec = BitVec.ofNat 32 n := fun n => rfl
  rw [Int32.toBitVec_and, e, e, e, BitVec.getLsbD_and, BitVec.getLsbD_ofNat, BitVec.getLsbD_ofNat, BitVec.getLsbD_ofNat, Nat.testBit_and]
  simp only [hi, decide_true, Bool.true_and]
/-- what all that is asked leaves of a sign's amounts -/
def gposN (S : gS) (s : Nat) : Nat → Nat
  | 0 => 511
  | i + 1 => gposN S s i &&& (if S 9 i = 0 then 511 ^^^ gamt S (S 7 i) (S 8 i) s else gamt S (S 7 i) (S 8 i) s)
theorem gposN_lt (S : gS) (s : Nat) : ∀ i, gposN S s i < 512
  | 0 => by unfold gposN; decide
  | i + 1 => by
    unfold gposN
    exact Nat.lt_of_le_of_lt Nat.and_le_left (gposN_lt S s i)
theorem q_who : ∀ p, p < 4 → ∀ g, g < 16 → ∀ b, b < 2 → nI (16 * p + g + 64 * b) >>> ((4 : Int32) &&& 31) &&& 3 = nI p := by decide +kernel
theorem q_sig : ∀ p, p < 4 → ∀ g, g < 16 → ∀ b, b < 2 → nI (16 * p + g + 64 * b) &&& 15 = nI g := by decide +kernel
theorem q_so : ∀ p, p < 4 → ∀ g, g < 16 → ∀ b, b < 2 → (nI (16 * p + g + 64 * b) &&& 64 = 0 ↔ b = 0) := by decide +kernel
theorem gclr_iff : ∀ x, x < 16 → ∀ s, s < 4 → (gclr x s = x ↔ x.testBit s = false) := by decide +kernel
section QA
variable {d : Nat} {h : qH} {K : qK} {S : gS} {r : Nat}
theorem c_setForbidden {s : Nat} {is : Bool} (hR : RS 5 h S) (hB : GB S) (hs : s < 4) (hk : K none (qI h 5 3 (nI (gfb S s is)))) : qCall (d + 1) 33 [.ref 5, .int (nI s), .int (b2 is)] h K := by
  have e := hR.2.2.2.1
  cases is
  · refine call_wp (n := 30) (cut := []) _ (by decide) (Nat.lt_succ_self _) rfl rfl (Nat.le_of_ble_eq_true rfl) rfl ?_
    refine And.intro (fun _ => ?_) (fun c => absurd rfl c)
    have e2 : nI (gfb S s false) = h.1 5 3 &&& ((1 : Int32) <<< (nI s &&& 31) ^^^ (-1)) := by rw [e, bit_clr _ hB.2.2.2.2.2 s hs]; rfl
    rw [e2] at hk
    exact hk
  · refine call_wp (n := 30) (cut := []) _ (by decide) (Nat.lt_succ_self _) rfl rfl (Nat.le_of_ble_eq_true rfl) rfl ?_
    refine And.intro (fun c => absurd c (by decide)) (fun _ => ?_)
    have e2 : nI (gfb S s true) = h.1 5 3 ||| ((1 : Int32) <<< (nI s &&& 31)) := by rw [e, bit_or _ hB.2.2.2.2.2 s hs]; rfl
    rw [e2] at hk
    exact hk
theorem c_wordsOf {p : Nat} (hr : r = 5 ∨ r = 8) (hp : p < 4) (hk : K (some (.int (h.1 (r + 1) p))) h) : qCall (d + 1) 34 [.ref r, .int (nI p)] h K := by
  rcases hr with rfl | rfl
  all_goals
    refine call_wp (n := 30) (cut := []) _ (by decide) (Nat.lt_succ_self _) rfl rfl (Nat.le_of_ble_eq_true rfl) rfl ?_
    refine And.intro (fun c => absurd c (nI_pos (by omega))) (fun _ => ?_)
    refine And.intro (fun c => absurd c (nI_ge (a := p) (b := 4) (by omega) (by decide))) (fun _ => ?_)
    refine And.intro (vp_in_nI (by omega) (by decide)) ?_
    refine kI hk ?_
    show _ = h.1 _ (nI p).toNatClampNeg
    rw [nI_clamp (by omega)]
    rfl
theorem c_askedAt {p : Nat} (hr : r = 5 ∨ r = 8) (hp : p < 6) (hk : K (some (.int (h.1 (r + 2) p))) h) : qCall (d + 1) 43 [.ref r, .int (nI p)] h K := by
  rcases hr with rfl | rfl
  all_goals
    refine call_wp (n := 30) (cut := []) _ (by decide) (Nat.lt_succ_self _) rfl rfl (Nat.le_of_ble_eq_true rfl) rfl ?_
    refine And.intro (fun c => absurd c (nI_pos (by omega))) (fun _ => ?_)
    refine And.intro (fun c => absurd c (nI_ge (a := p) (b := 6) (by omega) (by decide))) (fun _ => ?_)
    refine And.intro (vp_in_nI (by omega) (by decide)) ?_
    refine kI hk ?_
    show _ = h.1 _ (nI p).toNatClampNeg
    rw [nI_clamp (by omega)]
    rfl
theorem l_hmi (hr : r = 5 ∨ r = 11) (hC : RC h S) (hR : RS r h S) (hB : GB S) (hk : K (some (.int (nI (ginfN S (S 0 0))))) h) : ∀ m n, n + m = S 0 0 → qAt (d + 3, 35, some .int, q0, K) 4 [some (.ref r), some (.ref 3), some (.int (nI (ginfN S n))), some (.int (nI n))] [] h := by
  have hn0 := hB.1
  have e := hC.1
  have hr0 := hr
  rcases hr with rfl | rfl
  all_goals
    intro m
    induction m with
    | zero =>
      intro n hn
      have hn : n = S 0 0 := by omega
      refine at_wp [] 12 (Nat.le_of_ble_eq_true rfl) rfl ?_
      refine And.intro (fun _ => ?_) (fun c => absurd (by show h.1 3 0 ≤ nI n; rw [e, hn]; exact nI_le (Nat.le_refl _) (by omega)) c)
      rw [← hn] at hk
      exact hk
    | succ m ih =>
      intro n hn
      refine at_wp [4] 60 (Nat.le_of_ble_eq_true rfl) rfl ?_
      refine And.intro (fun c => absurd c (by show ¬ h.1 3 0 ≤ nI n; rw [e]; exact nI_ge (by omega) (by omega))) (fun _ => ?_)
      refine c_knownTo hr0 hR (by omega) ?_
      refine c_infers hC hB (by omega) (hB.2.1 n (by omega)).2.2 (fun b1 => ?_) (fun b1 => ?_)
      · refine And.intro (fun c => absurd c (by decide)) (fun _ => ?_)
        have := ih (n + 1) (by omega)
        rw [ginfN, if_pos b1, ← nI_1, ← nI_1] at this
        exact this
      · refine And.intro (fun _ => ?_) (fun c => absurd rfl c)
        have := ih (n + 1) (by omega)
        rw [ginfN, b1, ← nI_1] at this
        exact this
theorem c_howManyInfer (hr : r = 5 ∨ r = 11) (hC : RC h S) (hR : RS r h S) (hB : GB S) (hk : K (some (.int (nI (ginfN S (S 0 0))))) h) : qCall (d + 4) 35 [.ref r, .ref 3] h K := by
  refine call_wp (n := 4) (cut := []) _ (by decide) (Nat.lt_succ_self _) rfl rfl (Nat.le_of_ble_eq_true rfl) rfl ?_
  exact l_hmi hr hC hR hB hk (S 0 0) 0 (by omega)
theorem c_inferringAmounts {p sg s : Nat} (hC : RC h S) (hB : GB S) (hp : p < S 0 0) (hsg : sg < 16) (hs : s < 4) (hk : K (some (.int (nI (gamt S p sg s)))) h) : qCall (d + 2) 25 [.ref 3, .int (nI p), .int (nI sg), .int (nI s)] h K := by
  have e1 := (hC.2.1 p hp).2.2
  have l1 := gtog_lt hB (gclr sg s)
  have l2 := gen_lt hB hp
  have e2 := bit_clr sg hsg s hs
  have hcl := gclr_lt sg hsg s hs
  refine call_wp (n := 80) (cut := []) _ (by decide) (Nat.lt_succ_self _) rfl rfl (Nat.le_of_ble_eq_true rfl) rfl ?_
  refine c_get ?_
  show qCall _ 23 [.ref 3, .int (nI sg &&& ((1 : Int32) <<< (nI s &&& 31) ^^^ (-1)))] h _
  rw [e2]
  refine c_together hC hcl ?_
  have hgi := gclr_iff sg hsg s hs
  refine And.intro (fun c1 => ?_) (fun c1 => ?_)
  · have c1 : nI sg &&& ((1 : Int32) <<< (nI s &&& 31) ^^^ (-1)) = nI sg := c1
    rw [e2] at c1
    have c1 := hgi.mp ((nI_eq (by omega) (by omega)).mp c1)
    have ef := amt_f _ l2 _ l1
    unfold gamt at hk
    rw [c1, ← ef] at hk
    refine And.intro (fun c2 => ?_) (fun c2 => ?_)
    · have c2 : (0 : Int32) < fget (h.1 3 4) (nI p) - nI (gtog S (gclr sg s)) := c2
      rw [e1] at c2
      rw [if_neg (Int32.not_le.mpr c2)] at hk
      exact hk
    · have c2 : ¬ (0 : Int32) < fget (h.1 3 4) (nI p) - nI (gtog S (gclr sg s)) := c2
      rw [e1] at c2
      rw [if_pos (Int32.not_lt.mp c2)] at hk
      exact hk
  · have c1 : ¬ nI sg &&& ((1 : Int32) <<< (nI s &&& 31) ^^^ (-1)) = nI sg := c1
    rw [e2] at c1
    have c1 : sg.testBit s = true := by
      cases hb : sg.testBit s with
      | true => rfl
      | false => exact absurd (by rw [hgi.mpr hb]) c1
    have ef := amt_t _ l2 _ l1
    unfold gamt at hk
    rw [c1, ← ef, ← e1] at hk
    exact hk
theorem l_pos {s : Nat} (hC : RC h S) (hR : RS 5 h S) (hB : GB S) (hA : GA S) (hs : s < 4) (hk : K (some (.int (nI (gposN S s (S 5 4))))) h) : ∀ m n, n + m = S 5 4 → ∀ u v, qAt (d + 3, 44, some .int, q0, K) 4 [some (.ref 5), some (.ref 3), some (.int (nI s)), some (.int (nI (gposN S s n))), some (.int (nI n)), u, v] [] h := by
  have hn0 := hB.1
  have ha0 := hA.1
  have e := hR.2.2.2.2.2.1
  intro m
  induction m with
  | zero =>
    intro n hn u v
    have hn : n = S 5 4 := by omega
    refine at_wp [] 12 (Nat.le_of_ble_eq_true rfl) rfl ?_
    refine And.intro (fun _ => ?_) (fun c => absurd (by show h.1 5 7 ≤ nI n; rw [e, hn]; exact nI_le (Nat.le_refl _) (by omega)) c)
    rw [← hn] at hk
    exact hk
  | succ m ih =>
    intro n hn u v
    obtain ⟨a1, a2, a3⟩ := hA.2 n (by omega)
    have eq := hR.2.2.2.2.2.2.2 n (by omega)
    have ha : gamt S (S 7 n) (S 8 n) s < 512 := gamtF_lt (gen (S 1 (S 7 n)) (S 2 (S 7 n))) (gtog S (gclr (S 8 n) s)) ((S 8 n).testBit s) 9
    have hp := gposN_lt S s n
    refine at_wp [4] 90 (Nat.le_of_ble_eq_true rfl) rfl ?_
    refine And.intro (fun c => absurd c (by show ¬ h.1 5 7 ≤ nI n; rw [e]; exact nI_ge (by omega) (by omega))) (fun _ => ?_)
    refine c_askedAt (r := 5) (Or.inl rfl) (by omega) ?_
    rw [eq]
    show qCall _ 25 [.ref 3, .int (nI (16 * S 7 n + S 8 n + 64 * S 9 n) >>> ((4 : Int32) &&& 31) &&& 3), .int (nI (16 * S 7 n + S 8 n + 64 * S 9 n) &&& 15), .int (nI s)] h _
    rw [q_who _ (by omega) _ a2 _ a3, q_sig _ (by omega) _ a2 _ a3]
    refine c_inferringAmounts hC hB a1 a2 hs ?_
    refine And.intro (fun c1 => ?_) (fun c1 => ?_)
    · have c1 := (q_so _ (by omega) _ a2 _ a3).mp c1
      show qAt _ 4 [some (.ref 5), some (.ref 3), some (.int (nI s)), some (.int (nI (gposN S s n) &&& (nI (gamt S (S 7 n) (S 8 n) s) ^^^ (-1)))), some (.int (nI n + 1)), _, _] [] h
      rw [nI_1, not_and hp ha]
      have := ih (n + 1) (by omega)
      rw [gposN, if_pos c1] at this
      exact this _ _
    · have c1 : ¬ S 9 n = 0 := fun z => c1 ((q_so _ (by omega) _ a2 _ a3).mpr z)
      show qAt _ 4 [some (.ref 5), some (.ref 3), some (.int (nI s)), some (.int (nI (gposN S s n) &&& nI (gamt S (S 7 n) (S 8 n) s))), some (.int (nI n + 1)), _, _] [] h
      rw [nI_1, and_and hp ha]
      have := ih (n + 1) (by omega)
      rw [gposN, if_neg c1] at this
      exact this _ _
theorem c_possibleAmounts {s : Nat} (hC : RC h S) (hR : RS 5 h S) (hB : GB S) (hA : GA S) (hs : s < 4) (hk : K (some (.int (nI (gposN S s (S 5 4))))) h) : qCall (d + 4) 44 [.ref 5, .ref 3, .int (nI s)] h K := by
  refine call_wp (n := 4) (cut := []) _ (by decide) (Nat.lt_succ_self _) rfl rfl (Nat.le_of_ble_eq_true rfl) rfl ?_
  exact l_pos hC hR hB hA hs hk (S 5 4) 0 (by omega) _ _
end QA
end
section
/-! ## counting bits; what to ask next -/
def ush (x y : Int32) : Int32 := (x.toUInt32 >>> (y.toUInt32 &&& Int32.toUInt32 31)).toInt32
def fb1 (x : Int32) : Int32 := x - (ush x 1 &&& 1431655765)
def fb2 (x : Int32) : Int32 := (x &&& 858993459) + (ush x 2 &&& 858993459)
def fb3 (x : Int32) : Int32 := x + ush x 4 &&& 252645135
def fb4 (x : Int32) : Int32 := x + ush x 8
def fb5 (x : Int32) : Int32 := x + ush x 16
def fbc (x : Int32) : Int32 := fb5 (fb4 (fb3 (fb2 (fb1 x)))) &&& 63
def gpopN (n : Nat) : Nat → Nat
  | 0 => 0
  | k + 1 => gpopN n k + (if n.testBit k then 1 else 0)
def gpop (n : Nat) : Nat := gpopN n 9
theorem bc_ok : ∀ n, n < 512 → fbc (nI n) = nI (gpop n) := by decide +kernel
theorem gpop_le : ∀ n, n < 512 → gpop n ≤ 9 := by decide +kernel
theorem q_hi : ∀ q, q < 64 → nI q >>> ((4 : Int32) &&& 31) = nI (q / 16) := by decide +kernel
theorem q_lo : ∀ q, q < 64 → nI q &&& 15 = nI (q % 16) := by decide +kernel
theorem q_bit : ∀ q, q < 64 → ∀ k, k < 4 → (nI q &&& ((1 : Int32) <<< (nI k &&& 31)) = 0 ↔ q.testBit k = false) := by decide +kernel
def gleft (S : gS) (s P q : Nat) : Nat := max (gpop (P &&& gamt S (q / 16) (q % 16) s)) (gpop (P &&& (511 ^^^ gamt S (q / 16) (q % 16) s)))
/-- the best question (one more than it; 0 none) and what it leaves at worst, of the first n -/
def gbq (S : gS) (s P : Nat) : Nat → Nat × Nat
  | 0 => (0, 10)
  | q + 1 => if q.testBit s && decide (gleft S s P q < (gbq S s P q).2) then (q + 1, gleft S s P q) else gbq S s P q
def ib (b : Nat) : Int32 := nI b - 1
theorem max_nI {a b : Nat} (ha : a < 2 ^ 31) (hb : b < 2 ^ 31) : (if nI a < nI b then nI b else nI a) = nI (max a b) := by
  by_cases h : a < b
  · rw [if_pos ((nI_ltI ha hb).mpr h), Nat.max_eq_right (by omega)]
  · rw [if_neg (fun z => h ((nI_ltI ha hb).mp z)), Nat.max_eq_left (by omega)]
theorem and_lt {P a : Nat} (h : P < 512) : P &&& a < 512 := Nat.lt_of_le_of_lt Nat.and_le_left h
theorem gleft_le {S : gS} {s P q : Nat} (hP : P < 512) : gleft S s P q ≤ 9 := by
  unfold gleft
  exact Nat.max_le.mpr ⟨gpop_le _ (and_lt hP), gpop_le _ (and_lt hP)⟩
theorem gbq_le {S : gS} {s P : Nat} (hP : P < 512) : ∀ q, (gbq S s P q).2 ≤ 10
  | 0 => Nat.le_refl _
  | q + 1 => by
    unfold gbq
    split
    · have := gleft_le (S := S) (s := s) (q := q) hP
      show gleft S s P q ≤ 10
      omega
    · exact gbq_le hP q
section QN
variable {d : Nat} {h : qH} {K : qK} {S : gS}
theorem c_bitCount {n : Nat} (hn : n < 512) (hk : K (some (.int (nI (gpop n)))) h) : qCall (d + 1) 135 [.int (nI n)] h K := by
  refine call_wp (n := 80) (cut := []) _ (by decide) (Nat.lt_succ_self _) rfl rfl (Nat.le_of_ble_eq_true rfl) rfl ?_
  rw [← bc_ok n hn] at hk
  exact hk
theorem l_best {s P : Nat} (hC : RC h S) (hB : GB S) (hs : s < 4) (hP : P < 512) (hk : K (some (.int (ib (gbq S s P (16 * S 0 0)).1))) h) : ∀ m q, q + m = 16 * S 0 0 → ∀ u v, qAt (d + 3, 69, some .int, q0, K) 6 [some (.ref 0), some (.int (nI s)), some (.int (nI P)), some (.int (ib (gbq S s P q).1)), some (.int (nI (gbq S s P q).2)), some (.int (nI q)), u, v] [] h := by
  have hn0 := hB.1
  have e : (16 : Int32) * h.1 3 0 = nI (16 * S 0 0) := by rw [hC.1]; exact pk_mul 16 _
  intro m
  induction m with
  | zero =>
    intro q hq u v
    have hq : q = 16 * S 0 0 := by omega
    refine at_wp [] 12 (Nat.le_of_ble_eq_true rfl) rfl ?_
    refine And.intro (fun _ => ?_) (fun c => absurd (by show (16 : Int32) * h.1 3 0 ≤ nI q; rw [e, hq]; exact nI_le (Nat.le_refl _) (by omega)) c)
    rw [← hq] at hk
    exact hk
  | succ m ih =>
    intro q hq u v
    have hq64 : q < 64 := by omega
    have ihq := ih (q + 1) (by omega)
    refine at_wp [6] 90 (Nat.le_of_ble_eq_true rfl) rfl ?_
    refine And.intro (fun c => absurd c (by show ¬ (16 : Int32) * h.1 3 0 ≤ nI q; rw [e]; exact nI_ge (by omega) (by omega))) (fun _ => ?_)
    refine And.intro (fun c1 => ?_) (fun c1 => ?_)
    · have c1 := (q_bit q hq64 s hs).mp c1
      rw [gbq, c1, Bool.false_and, ← nI_1] at ihq
      exact ihq _ _
    · have c1 : q.testBit s = true := by
        cases hb : q.testBit s with
        | true => rfl
        | false => exact absurd ((q_bit q hq64 s hs).mpr hb) c1
      show qCall _ 25 [.ref 3, .int (nI q >>> ((4 : Int32) &&& 31)), .int (nI q &&& 15), .int (nI s)] h _
      rw [q_hi q hq64, q_lo q hq64]
      refine c_inferringAmounts hC hB (by omega) (by omega) hs ?_
      have ha : gamt S (q / 16) (q % 16) s < 512 := gamtF_lt _ _ _ 9
      show qCall _ 135 [.int (nI P &&& nI (gamt S (q / 16) (q % 16) s))] h _
      rw [and_and hP ha]
      refine c_bitCount (and_lt hP) ?_
      show qCall _ 135 [.int (nI P &&& (nI (gamt S (q / 16) (q % 16) s) ^^^ (-1)))] h _
      rw [not_and hP ha]
      refine c_bitCount (and_lt hP) ?_
      have l1 := gpop_le (P &&& gamt S (q / 16) (q % 16) s) (and_lt hP)
      have l2 := gpop_le (P &&& (511 ^^^ gamt S (q / 16) (q % 16) s)) (and_lt hP)
      have em := max_nI (a := gpop (P &&& gamt S (q / 16) (q % 16) s)) (b := gpop (P &&& (511 ^^^ gamt S (q / 16) (q % 16) s))) (by omega) (by omega)
      have l3 := gleft_le (S := S) (s := s) (q := q) hP
      have l4 := gbq_le (S := S) (s := s) hP q
      refine And.intro (fun c2 => ?_) (fun c2 => ?_)
      · have c2 : nI (gbq S s P q).2 ≤ (if nI (gpop (P &&& gamt S (q / 16) (q % 16) s)) < nI (gpop (P &&& (511 ^^^ gamt S (q / 16) (q % 16) s))) then nI (gpop (P &&& (511 ^^^ gamt S (q / 16) (q % 16) s))) else nI (gpop (P &&& gamt S (q / 16) (q % 16) s))) := c2
        rw [em, nI_leI (by omega) (by omega)] at c2
        have c3 : ¬ gleft S s P q < (gbq S s P q).2 := by unfold gleft; omega
        rw [gbq, c1, decide_eq_false c3, Bool.and_false, ← nI_1] at ihq
        exact ihq _ _
      · have c2 : ¬ nI (gbq S s P q).2 ≤ (if nI (gpop (P &&& gamt S (q / 16) (q % 16) s)) < nI (gpop (P &&& (511 ^^^ gamt S (q / 16) (q % 16) s))) then nI (gpop (P &&& (511 ^^^ gamt S (q / 16) (q % 16) s))) else nI (gpop (P &&& gamt S (q / 16) (q % 16) s))) := c2
        rw [em, nI_leI (by omega) (by omega)] at c2
        have c3 : gleft S s P q < (gbq S s P q).2 := by unfold gleft; omega
        rw [gbq, c1, decide_eq_true c3, Bool.and_true, if_pos rfl, ← nI_1] at ihq
        have e1 : ib (q + 1, gleft S s P q).1 = nI q := nI_pred q
        rw [e1] at ihq
        show qAt _ 6 [some (.ref 0), some (.int (nI s)), some (.int (nI P)), some (.int (nI q)), some (.int (if nI (gpop (P &&& gamt S (q / 16) (q % 16) s)) < nI (gpop (P &&& (511 ^^^ gamt S (q / 16) (q % 16) s))) then nI (gpop (P &&& (511 ^^^ gamt S (q / 16) (q % 16) s))) else nI (gpop (P &&& gamt S (q / 16) (q % 16) s)))), some (.int (nI q + 1)), some _, some _] [] h
        rw [em]
        exact ihq _ _
theorem c_bestQuestion {s P : Nat} (hC : RC h S) (hB : GB S) (hs : s < 4) (hP : P < 512) (hk : K (some (.int (ib (gbq S s P (16 * S 0 0)).1))) h) : qCall (d + 4) 69 [.ref 0, .int (nI s), .int (nI P)] h K := by
  refine call_wp (n := 6) (cut := []) _ (by decide) (Nat.lt_succ_self _) rfl rfl (Nat.le_of_ble_eq_true rfl) rfl ?_
  exact l_best hC hB hs hP hk (16 * S 0 0) 0 (by omega) _ _
end QN
end
section
/-! ## the class's own calls: answers (a..) and the state behind (u..) -/
def ix (p : Int32) (N : Nat) : Option Nat := if 0 ≤ p.toInt ∧ p.toInt < (N : Int) then some p.toNatClampNeg else none
theorem ix_some {n N : Nat} (h : n < N) (hN : N < 2 ^ 31) : ix (nI n) N = some n := by
  unfold ix
  rw [nI_toInt (by omega), if_pos ⟨by omega, by omega⟩, nI_clamp (by omega)]
theorem ix_none {p : Int32} {N : Nat} (hN : N < 2 ^ 31) (h : ∀ n, n < N → p ≠ nI n) : ix p N = none := by
  unfold ix
  rw [if_neg]
  rintro ⟨h1, h2⟩
  have h3 : ¬ p < 0 := fun z => by
    rw [Int32.lt_iff_toInt_lt] at z
    have : (0 : Int32).toInt = 0 := by decide
    omega
  obtain ⟨j, hj, rfl⟩ := nI_of h3
  rw [nI_toInt hj] at h2
  exact h j (by omega) rfl
theorem ix_lt {p : Int32} {N n : Nat} (hN : N < 2 ^ 31) (h : ix p N = some n) : n < N ∧ p = nI n := by
  unfold ix at h
  split at h
  · rename_i hc
    have h3 : ¬ p < 0 := fun z => by
      rw [Int32.lt_iff_toInt_lt] at z
      have : (0 : Int32).toInt = 0 := by decide
      omega
    obtain ⟨j, hj, rfl⟩ := nI_of h3
    rw [nI_toInt hj] at hc
    rw [nI_clamp hj] at h
    cases h
    exact ⟨by omega, rfl⟩
  · cases h
def ip (S : gS) (p : Int32) : Option Nat := ix p (S 0 0)
def isg (S : gS) (k : Int32) : Option Nat := if 0 < S 0 0 then ix k 4 else none
theorem isg_some {S : gS} {n : Nat} (h0 : 0 < S 0 0) (h : n < 4) : isg S (nI n) = some n := by
  unfold isg
  rw [if_pos h0, ix_some h (by decide)]
theorem isg_none {S : gS} {p : Int32} (h : 0 < S 0 0 → ∀ n, n < 4 → p ≠ nI n) : isg S p = none := by
  unfold isg
  by_cases h0 : 0 < S 0 0
  · rw [if_pos h0, ix_none (by decide) (h h0)]
  · rw [if_neg h0]
theorem ip_some {S : gS} (hB : GB S) {n : Nat} (h : n < S 0 0) : ip S (nI n) = some n := ix_some h (by have := hB.1; omega)
theorem ip_none {S : gS} (hB : GB S) {p : Int32} (h : ∀ n, n < S 0 0 → p ≠ nI n) : ip S p = none := ix_none (by have := hB.1; omega) h
def gkept (S : gS) : gS := fun x y => if x = 4 then S 14 y else if x = 5 then S 15 y else if x = 6 then S 16 y else if x = 7 then S 17 y else if x = 8 then S 18 y else if x = 9 then S 19 y else S x y
def RX (h : qH) (S : gS) : Prop := RC h S ∧ RS 5 h S ∧ (S 13 0 = 1 → RS 8 h (gkept S)) ∧ h.1 0 6 = nI (S 13 0) ∧ h.1 0 7 = nI (S 12 1) ∧ h.1 0 8 = nI (S 12 0) ∧ h.1 1 1 = nI (S 10 0) ∧ ∀ i, i < S 10 0 → h.1 2 i = nI (S 11 i)
def RG (S : gS) : Prop := GB S ∧ GA S ∧ (S 13 0 = 1 → GB (gkept S) ∧ GA (gkept S)) ∧ S 13 0 < 2 ∧ S 12 0 ≤ 12 ∧ S 10 0 ≤ 22 ∧ ∀ i, i < S 10 0 → 32 ≤ S 11 i ∧ S 11 i ≤ 126
def lX : List Nat := [0, 1, 2, 3, 4, 5, 6, 7, 8, 9, 10, 11, 12, 13, 14]
theorem gkept_S {S S' : gS} (e : ∀ a, a < 4 ∨ 10 ≤ a → S' a = S a) : gkept S' = gkept S := by
  funext x y
  unfold gkept
  by_cases h4 : x = 4
  · rw [if_pos h4, if_pos h4, e 14 (by omega)]
  · by_cases h5 : x = 5
    · rw [if_neg h4, if_neg h4, if_pos h5, if_pos h5, e 15 (by omega)]
    · by_cases h6 : x = 6
      · rw [if_neg h4, if_neg h4, if_neg h5, if_neg h5, if_pos h6, if_pos h6, e 16 (by omega)]
      · by_cases h7 : x = 7
        · rw [if_neg h4, if_neg h4, if_neg h5, if_neg h5, if_neg h6, if_neg h6, if_pos h7, if_pos h7, e 17 (by omega)]
        · by_cases h8 : x = 8
          · rw [if_neg h4, if_neg h4, if_neg h5, if_neg h5, if_neg h6, if_neg h6, if_neg h7, if_neg h7, if_pos h8, if_pos h8, e 18 (by omega)]
          · by_cases h9 : x = 9
            · rw [if_neg h4, if_neg h4, if_neg h5, if_neg h5, if_neg h6, if_neg h6, if_neg h7, if_neg h7, if_neg h8, if_neg h8, if_pos h9, if_pos h9, e 19 (by omega)]
            · rw [if_neg h4, if_neg h4, if_neg h5, if_neg h5, if_neg h6, if_neg h6, if_neg h7, if_neg h7, if_neg h8, if_neg h8, if_neg h9, if_neg h9, e x (by omega)]
theorem RX.scene {h h' : qH} {S S' : gS} (hX : RX h S) (f : Fr [5, 6, 7] h h') (hR : RS 5 h' S') (e : ∀ a, a < 4 ∨ 10 ≤ a → S' a = S a) : RX h' S' := by
  obtain ⟨x1, x2, x3, x4, x5, x6, x7, x8⟩ := hX
  unfold RX
  rw [e 13 (by omega), e 12 (by omega), e 10 (by omega), e 11 (by omega), gkept_S e, f.1 0 (by decide), f.1 1 (by decide), f.1 2 (by decide)]
  exact ⟨(x1.fr f (by decide) (by decide)).S (fun a ha => e a (Or.inl ha)), hR, fun z => (x3 z).fr f (by decide) (by decide) (by decide), x4, x5, x6, x7, x8⟩
theorem RG.scene {S S' : gS} (hG : RG S) (hB : GB S') (hA : GA S') (e : ∀ a, a < 4 ∨ 10 ≤ a → S' a = S a) : RG S' := by
  obtain ⟨x1, x2, x3, x4, x5, x6, x7⟩ := hG
  unfold RG
  rw [e 13 (by omega), e 12 (by omega), e 10 (by omega), e 11 (by omega), gkept_S e]
  exact ⟨hB, hA, x3, x4, x5, x6, x7⟩
/-! answers -/
def aAbout (S : gS) (p w : Int32) : Int32 := match ip S p with
  | none => -101
  | some n => match ix w 8 with
    | some 0 => nI (S 1 n)
    | some 1 => nI (S 2 n)
    | some 2 => nI (S 4 n)
    | some 3 => nI (gtog S (S 4 n))
    | some 4 => b2 (ginf S n (S 4 n))
    | some 5 => b2 ((S 5 0).testBit n)
    | some 6 => b2 ((S 5 1).testBit n)
    | some _ => nI (S 6 n)
    | none => -102
def aAs (S : gS) (p k : Int32) : Int32 := match ip S p with
  | none => -101
  | some n => match ix k 5 with
    | none => -102
    | some k => if gisA S n k then nI n else -1
def aSign (S : gS) (k : Int32) : Int32 := match isg S k with
  | none => -101
  | some k => nI (S 3 k)
def aForbid (S : gS) (k : Int32) : Int32 := match isg S k with
  | none => -101
  | some k => b2 ((S 5 2).testBit k)
def uForbid (S : gS) (k : Int32) (is : Bool) : gS := match isg S k with
  | none => S
  | some k => sS S 5 2 (gfb S k is)
def iTell (S : gS) (f t s : Int32) : Option (Nat × Nat × Nat) := match ip S f, ip S t, isg S s with
  | some f, some t, some s => if f = t then none else some (f, t, s)
  | _, _, _ => none
def aTell (S : gS) (f t s : Int32) : Int32 := match iTell S f t s with
  | none => -101
  | some q => if gcan S q.1 q.2.1 q.2.2 then nI (gpassA S q.1 q.2.1 q.2.2) else -103
def uTell (S : gS) (f t s : Int32) : gS := match iTell S f t s with
  | none => S
  | some q => if gcan S q.1 q.2.1 q.2.2 then gpass S q.1 q.2.1 q.2.2 else S
def iPair (S : gS) (f t : Int32) : Option (Nat × Nat) := match ip S f, ip S t with
  | some f, some t => if f = t then none else some (f, t)
  | _, _ => none
def aSafe (S : gS) (f t : Int32) : Int32 := match iPair S f t with
  | none => -101
  | some q => if (S 5 0).testBit q.1 || (S 5 0).testBit q.2 then -103 else nI (gsafeN S q.1 q.2 4)
def aTells (S : gS) (k : Int32) : Int32 := match isg S k with
  | none => -101
  | some k => nI (gposN S k (S 5 4))
def aNext (S : gS) (k : Int32) : Int32 := match isg S k with
  | none => -101
  | some k => if gposN S k (S 5 4) = 0 then -1 else ib (gbq S k (gposN S k (S 5 4)) (16 * S 0 0)).1
theorem iPair_some {S : gS} (hB : GB S) {p q : Nat} (hp : p < S 0 0) (hq : q < S 0 0) (hne : p ≠ q) : iPair S (nI p) (nI q) = some (p, q) := by
  unfold iPair
  rw [ip_some hB hp, ip_some hB hq]
  exact if_neg hne
theorem iPair_none {S : gS} (hB : GB S) {a b : Int32} (h : ∀ p q, p < S 0 0 → q < S 0 0 → p ≠ q → a = nI p → b = nI q → False) : iPair S a b = none := by
  have hN : S 0 0 < 2 ^ 31 := by have := hB.1; omega
  unfold iPair
  cases ha : ip S a with
  | none => rfl
  | some p =>
    cases hb : ip S b with
    | none => rfl
    | some q =>
      obtain ⟨p1, p2⟩ := ix_lt hN ha
      obtain ⟨q1, q2⟩ := ix_lt hN hb
      show (if p = q then none else some (p, q)) = none
      by_cases e : p = q
      · rw [if_pos e]
      · exact (h p q p1 q1 e p2 q2).elim
theorem iTell_pair (S : gS) (f t s : Int32) : iTell S f t s = match iPair S f t, isg S s with
    | some q, some s => some (q.1, q.2, s)
    | _, _ => none := by
  unfold iTell iPair
  cases ip S f with
  | none => rfl
  | some f =>
    cases ip S t with
    | none => rfl
    | some t =>
      cases isg S s with
      | none =>
        show none = _
        dsimp only
        split <;> simp_all
      | some s =>
        dsimp only
        by_cases e : f = t
        · rw [if_pos e, if_pos e]
        · rw [if_neg e, if_neg e]
section QO
variable {d : Nat} {h : qH} {K : qK} {S : gS}
theorem x_as {p k : Int32} (hX : RX h S) (hG : RG S) (hk : K (some (.int (aAs S p k))) h) : qCall (d + 4) 50 [.ref 0, .int p, .int k] h K := by
  have hB := hG.1
  have hn := hB.1
  unfold aAs at hk
  refine call_wp (n := 40) (cut := []) _ (by decide) (Nat.lt_succ_self _) rfl rfl (Nat.le_of_ble_eq_true rfl) rfl ?_
  refine c_isPerson hX.1 hB (fun n hn ep => ?_) (fun hp => ?_)
  · subst ep
    rw [ip_some hB hn] at hk
    refine And.intro (fun c => absurd c (by decide)) (fun _ => ?_)
    refine And.intro (fun c1 => ?_) (fun c1 => ?_)
    · rw [show ix k 5 = none from ix_none (by decide) (fun j hj z => nI_pos (by omega) (z ▸ c1))] at hk
      exact hk
    · obtain ⟨q, hq, rfl⟩ := nI_of c1
      refine And.intro (fun c2 => ?_) (fun c2 => ?_)
      · have c2 : nI q ≤ nI 4 := c2
        rw [nI_leI (by omega) (by omega)] at c2
        rw [ix_some (n := q) (by omega) (by decide)] at hk
        dsimp only at hk
        refine c_isA hX.1 hB hn (by omega) (fun b1 => ?_) (fun b1 => ?_)
        · refine And.intro (fun c => absurd c (by decide)) (fun _ => ?_)
          rw [if_pos (by exact b1)] at hk
          exact hk
        · refine And.intro (fun _ => ?_) (fun c => absurd rfl c)
          rw [if_neg (by rw [b1]; decide)] at hk
          exact hk
      · have c2 : ¬ nI q ≤ nI 4 := c2
        rw [nI_leI (by omega) (by omega)] at c2
        rw [show ix (nI q) 5 = none from ix_none (by decide) (fun j hj z => by rw [nI_eq (by omega) (by omega)] at z; omega)] at hk
        exact hk
  · rw [ip_none hB hp] at hk
    refine And.intro (fun _ => ?_) (fun c => absurd rfl c)
    exact hk
theorem x_sign {k : Int32} (hX : RX h S) (hG : RG S) (hk : K (some (.int (aSign S k))) h) : qCall (d + 3) 51 [.ref 0, .int k] h K := by
  have hB := hG.1
  unfold aSign at hk
  refine call_wp (n := 40) (cut := []) _ (by decide) (Nat.lt_succ_self _) rfl rfl (Nat.le_of_ble_eq_true rfl) rfl ?_
  refine c_isSign hX.1 hB (fun n hn h0 ep => ?_) (fun hp => ?_)
  · subst ep
    rw [isg_some h0 hn] at hk
    refine And.intro (fun c => absurd c (by decide)) (fun _ => ?_)
    exact c_amountOf hX.1 hn hk
  · rw [isg_none hp] at hk
    refine And.intro (fun _ => ?_) (fun c => absurd rfl c)
    exact hk
theorem x_tells {k : Int32} (hX : RX h S) (hG : RG S) (hk : K (some (.int (aTells S k))) h) : qCall (d + 5) 58 [.ref 0, .int k] h K := by
  have hB := hG.1
  unfold aTells at hk
  refine call_wp (n := 40) (cut := []) _ (by decide) (Nat.lt_succ_self _) rfl rfl (Nat.le_of_ble_eq_true rfl) rfl ?_
  refine c_isSign hX.1 hB (fun n hn h0 ep => ?_) (fun hp => ?_)
  · subst ep
    rw [isg_some h0 hn] at hk
    refine And.intro (fun c => absurd c (by decide)) (fun _ => ?_)
    exact c_possibleAmounts hX.1 hX.2.1 hB hG.2.1 hn hk
  · rw [isg_none hp] at hk
    refine And.intro (fun _ => ?_) (fun c => absurd rfl c)
    exact hk
theorem x_next {k : Int32} (hX : RX h S) (hG : RG S) (hk : K (some (.int (aNext S k))) h) : qCall (d + 5) 59 [.ref 0, .int k] h K := by
  have hB := hG.1
  unfold aNext at hk
  refine call_wp (n := 40) (cut := []) _ (by decide) (Nat.lt_succ_self _) rfl rfl (Nat.le_of_ble_eq_true rfl) rfl ?_
  refine c_isSign hX.1 hB (fun n hn h0 ep => ?_) (fun hp => ?_)
  · subst ep
    rw [isg_some h0 hn] at hk
    refine And.intro (fun c => absurd c (by decide)) (fun _ => ?_)
    refine c_possibleAmounts hX.1 hX.2.1 hB hG.2.1 hn ?_
    have hP := gposN_lt S n (S 5 4)
    refine And.intro (fun c1 => ?_) (fun c1 => ?_)
    · have c1 : nI (gposN S n (S 5 4)) = nI 0 := c1
      rw [nI_eq (by omega) (by omega)] at c1
      dsimp only at hk
      rw [if_pos c1] at hk
      exact hk
    · have c1 : ¬ nI (gposN S n (S 5 4)) = nI 0 := c1
      rw [nI_eq (by omega) (by omega)] at c1
      dsimp only at hk
      rw [if_neg c1] at hk
      exact c_bestQuestion hX.1 hB hn hP hk
  · rw [isg_none hp] at hk
    refine And.intro (fun _ => ?_) (fun c => absurd rfl c)
    exact hk
theorem x_safe {f t : Int32} (hX : RX h S) (hG : RG S) (hk : K (some (.int (aSafe S f t))) h) : qCall (d + 6) 55 [.ref 0, .int f, .int t] h K := by
  have hB := hG.1
  have hn0 := hB.1
  unfold aSafe at hk
  refine call_wp (n := 40) (cut := []) _ (by decide) (Nat.lt_succ_self _) rfl rfl (Nat.le_of_ble_eq_true rfl) rfl ?_
  refine c_isPair hX.1 hB (fun p q hp hq hne ep eq => ?_) (fun hp => ?_)
  · subst ep
    subst eq
    rw [iPair_some hB hp hq hne] at hk
    dsimp only at hk
    refine And.intro (fun c => absurd c (by decide)) (fun _ => ?_)
    refine c_isHanged (Or.inl rfl) hX.2.1 hB (by omega) (fun b1 => ?_) (fun b1 => ?_)
    · refine And.intro (fun c => absurd c (by decide)) (fun _ => ?_)
      rw [b1] at hk
      exact hk
    · refine And.intro (fun _ => ?_) (fun c => absurd rfl c)
      refine c_isHanged (Or.inl rfl) hX.2.1 hB (by omega) (fun b2 => ?_) (fun b2 => ?_)
      · refine And.intro (fun c => absurd c (by decide)) (fun _ => ?_)
        rw [b1, b2] at hk
        exact hk
      · refine And.intro (fun _ => ?_) (fun c => absurd rfl c)
        rw [b1, b2] at hk
        exact c_unpunished hX.1 hX.2.1 hB hp hq hk
  · rw [iPair_none hB hp] at hk
    refine And.intro (fun _ => ?_) (fun c => absurd rfl c)
    exact hk
theorem x_forbid {k : Int32} {is : Bool} (hX : RX h S) (hG : RG S) (hk : ∀ h', Fr lX h h' → RX h' (uForbid S k is) → K (some (.int (aForbid S k))) h') : qCall (d + 2) 52 [.ref 0, .int k, .int (b2 is)] h K := by
  have hB := hG.1
  unfold aForbid uForbid at hk
  refine call_wp (n := 60) (cut := []) _ (by decide) (Nat.lt_succ_self _) rfl rfl (Nat.le_of_ble_eq_true rfl) rfl ?_
  refine c_isSign hX.1 hB (fun n hn h0 ep => ?_) (fun hp => ?_)
  · subst ep
    rw [isg_some h0 hn] at hk
    dsimp only at hk
    have hf : Fr [5, 6, 7] h (qI h 5 3 (nI (gfb S n is))) := Fr.rf.I (by decide)
    have hk2 := hk (qI h 5 3 (nI (gfb S n is))) (hf.mono (by decide)) (hX.scene hf ?_ (fun a ha => sS_ne (by omega)))
    · refine And.intro (fun c => absurd c (by decide)) (fun _ => ?_)
      refine c_isForbidden (Or.inl rfl) hX.2.1 hB hn (fun b1 => ?_) (fun b1 => ?_)
      · refine And.intro (fun c => absurd c (by decide)) (fun _ => ?_)
        refine c_setForbidden hX.2.1 hB hn ?_
        rw [b1] at hk2
        exact hk2
      · refine And.intro (fun _ => ?_) (fun c => absurd rfl c)
        refine c_setForbidden hX.2.1 hB hn ?_
        rw [b1] at hk2
        exact hk2
    · obtain ⟨r0, r1, r2, r3, r4, r7, r6, rq⟩ := hX.2.1
      exact ⟨r0, r1, r2, rfl, r4, r7, r6, rq⟩
  · rw [isg_none hp] at hk
    refine And.intro (fun _ => ?_) (fun c => absurd rfl c)
    exact hk h Fr.rf hX
theorem x_tell {f t s : Int32} (hX : RX h S) (hG : RG S) (hk : ∀ h', Fr lX h h' → RX h' (uTell S f t s) → K (some (.int (aTell S f t s))) h') : qCall (d + 6) 53 [.ref 0, .int f, .int t, .int s] h K := by
  have hB := hG.1
  unfold aTell uTell at hk
  rw [iTell_pair] at hk
  refine call_wp (n := 60) (cut := []) _ (by decide) (Nat.lt_succ_self _) rfl rfl (Nat.le_of_ble_eq_true rfl) rfl ?_
  refine c_isPair hX.1 hB (fun p q hp hq hne ep eq => ?_) (fun hp => ?_)
  · subst ep
    subst eq
    rw [iPair_some hB hp hq hne] at hk
    refine And.intro (fun c => absurd c (by decide)) (fun _ => ?_)
    refine c_isSign hX.1 hB (fun n hn h0 es => ?_) (fun hs => ?_)
    · subst es
      rw [isg_some h0 hn] at hk
      dsimp only at hk
      refine And.intro (fun c => absurd c (by decide)) (fun _ => ?_)
      refine c_canTell (Or.inl rfl) hX.2.1 hB hp hq hn (fun b1 => ?_) (fun b1 => ?_)
      · refine And.intro (fun c => absurd c (by decide)) (fun _ => ?_)
        rw [if_pos b1, if_pos b1] at hk
        refine c_pass (Or.inl rfl) hX.1 hX.2.1 hB hp hq hn (fun h' hf hR => ?_)
        exact hk h' (hf.mono (by decide)) (hX.scene (hf.mono (by decide)) hR (fun a ha => by
          funext y
          unfold gpass
          rw [if_neg (by omega), if_neg (by omega), if_neg (by omega), if_neg (by omega), if_neg (by omega)]))
      · refine And.intro (fun _ => ?_) (fun c => absurd rfl c)
        rw [if_neg (by rw [b1]; decide), if_neg (by rw [b1]; decide)] at hk
        exact hk h Fr.rf hX
    · rw [isg_none hs] at hk
      refine And.intro (fun _ => ?_) (fun c => absurd rfl c)
      exact hk h Fr.rf hX
  · rw [iPair_none hB hp] at hk
    refine And.intro (fun _ => ?_) (fun c => absurd rfl c)
    exact hk h Fr.rf hX
theorem ix8 {w : Int32} (c0 : ¬ w = Int32.ofInt 0) (c1 : ¬ w = Int32.ofInt 1) (c2 : ¬ w = Int32.ofInt 2) (c3 : ¬ w = Int32.ofInt 3) (c4 : ¬ w = Int32.ofInt 4) (c5 : ¬ w = Int32.ofInt 5) (c6 : ¬ w = Int32.ofInt 6) (c7 : ¬ w = Int32.ofInt 7) : ix w 8 = none := by
  refine ix_none (by decide) (fun n hn z => ?_)
  match n, hn with
  | 0, _ => exact c0 z
  | 1, _ => exact c1 z
  | 2, _ => exact c2 z
  | 3, _ => exact c3 z
  | 4, _ => exact c4 z
  | 5, _ => exact c5 z
  | 6, _ => exact c6 z
  | 7, _ => exact c7 z
theorem x_about {p w : Int32} (hX : RX h S) (hG : RG S) (hk : K (some (.int (aAbout S p w))) h) : qCall (d + 3) 49 [.ref 0, .int p, .int w] h K := by
  have hB := hG.1
  have hn0 := hB.1
  unfold aAbout at hk
  refine call_wp (n := 60) (cut := []) _ (by decide) (Nat.lt_succ_self _) rfl rfl (Nat.le_of_ble_eq_true rfl) rfl ?_
  refine c_isPerson hX.1 hB (fun n hn ep => ?_) (fun hp => ?_)
  · subst ep
    rw [ip_some hB hn] at hk
    dsimp only at hk
    refine And.intro (fun c => absurd c (by decide)) (fun _ => ?_)
    refine c_knownTo (Or.inl rfl) hX.2.1 hn ?_
    have hkn := (hB.2.1 n hn).2.2
    refine And.intro (fun c0 => ?_) (fun c0 => ?_)
    · rw [c0, show ix (Int32.ofInt 0) 8 = some 0 by decide +kernel] at hk
      exact c_kindOf hX.1 hn hk
    · refine And.intro (fun c1 => ?_) (fun c1 => ?_)
      · rw [c1, show ix (Int32.ofInt 1) 8 = some 1 by decide +kernel] at hk
        exact c_needOf hX.1 hn hk
      · refine And.intro (fun c2 => ?_) (fun c2 => ?_)
        · rw [c2, show ix (Int32.ofInt 2) 8 = some 2 by decide +kernel] at hk
          exact hk
        · refine And.intro (fun c3 => ?_) (fun c3 => ?_)
          · rw [c3, show ix (Int32.ofInt 3) 8 = some 3 by decide +kernel] at hk
            exact c_together hX.1 hkn hk
          · refine And.intro (fun c4 => ?_) (fun c4 => ?_)
            · rw [c4, show ix (Int32.ofInt 4) 8 = some 4 by decide +kernel] at hk
              refine c_infers hX.1 hB hn hkn (fun b1 => ?_) (fun b1 => ?_)
              · refine And.intro (fun c => absurd c (by decide)) (fun _ => ?_)
                rw [b1] at hk
                exact hk
              · refine And.intro (fun _ => ?_) (fun c => absurd rfl c)
                rw [b1] at hk
                exact hk
            · refine And.intro (fun c5 => ?_) (fun c5 => ?_)
              · rw [c5, show ix (Int32.ofInt 5) 8 = some 5 by decide +kernel] at hk
                refine c_isHanged (Or.inl rfl) hX.2.1 hB (by omega) (fun b1 => ?_) (fun b1 => ?_)
                · refine And.intro (fun c => absurd c (by decide)) (fun _ => ?_)
                  rw [b1] at hk
                  exact hk
                · refine And.intro (fun _ => ?_) (fun c => absurd rfl c)
                  rw [b1] at hk
                  exact hk
              · refine And.intro (fun c6 => ?_) (fun c6 => ?_)
                · rw [c6, show ix (Int32.ofInt 6) 8 = some 6 by decide +kernel] at hk
                  refine c_hasSaid (Or.inl rfl) hX.2.1 hB (by omega) (fun b1 => ?_) (fun b1 => ?_)
                  · refine And.intro (fun c => absurd c (by decide)) (fun _ => ?_)
                    rw [b1] at hk
                    exact hk
                  · refine And.intro (fun _ => ?_) (fun c => absurd rfl c)
                    rw [b1] at hk
                    exact hk
                · refine And.intro (fun c7 => ?_) (fun c7 => ?_)
                  · rw [c7, show ix (Int32.ofInt 7) 8 = some 7 by decide +kernel] at hk
                    exact c_wordsOf (r := 5) (Or.inl rfl) (by omega) (kI hk (hX.2.1.2.2.2.2.2.2.1 n hn).symm)
                  · rw [ix8 c0 c1 c2 c3 c4 c5 c6 c7] at hk
                    exact hk
  · rw [ip_none hB hp] at hk
    refine And.intro (fun _ => ?_) (fun c => absurd rfl c)
    exact hk
end QO
end
section
/-! ## letters, questions, the image, counts -/
def aLetter (S : gS) (c : Int32) : Int32 := if c < 32 ∨ 126 < c then -102 else if 22 ≤ S 10 0 then -104 else nI (S 10 0 + 1)
def uLetter (S : gS) (c : Int32) : gS := if c < 32 ∨ 126 < c then S else if 22 ≤ S 10 0 then S else sS (sS S 11 (S 10 0) c.toNatClampNeg) 10 0 (S 10 0 + 1)
def aAsk (S : gS) (p s : Int32) : Int32 := match ip S p with
  | none => -101
  | some _ => match ix s 16 with
    | none => -102
    | some _ => if 6 ≤ S 5 4 then -104 else nI (S 5 4 + 1)
def gask (S : gS) (n g b : Nat) : gS := sS (sS (sS (sS S 7 (S 5 4) n) 8 (S 5 4) g) 9 (S 5 4) b) 5 4 (S 5 4 + 1)
def uAsk (S : gS) (p s : Int32) (so : Bool) : gS := match ip S p with
  | none => S
  | some n => match ix s 16 with
    | none => S
    | some g => if 6 ≤ S 5 4 then S else gask S n g (if so then 1 else 0)
def aImage (S : gS) : Int32 := if S 0 0 = 0 then -103 else nI (S 5 3)
def gimg (S : gS) : gS := fun x y => if x = 13 ∧ y = 0 then 1 else if x = 14 then S 4 y else if x = 15 then S 5 y else if x = 16 then S 6 y else if x = 17 then S 7 y else if x = 18 then S 8 y else if x = 19 then S 9 y else S x y
def uImage (S : gS) : gS := if S 0 0 = 0 then S else gimg S
def aRestore (S : gS) : Int32 := if S 13 0 = 0 then -103 else nI (S 15 3)
def uRestore (S : gS) : gS := if S 13 0 = 0 then S else gkept S
def aCount (S : gS) (w : Int32) : Int32 := match ix w 10 with
  | some 0 => nI (S 0 0)
  | some 1 => nI (ginfN S (S 0 0))
  | some 2 => nI (gpop (S 5 0))
  | some 3 => nI (gpop (S 5 1))
  | some 4 => nI (gpop (S 5 2))
  | some 5 => nI (S 5 3)
  | some 6 => nI (S 5 4)
  | some 7 => nI (S 10 0)
  | some 8 => nI (S 12 1)
  | some _ => nI (S 12 0)
  | none => -102
theorem gimg_o {S : gS} {a : Nat} (h : a < 13 ∨ 20 ≤ a) : gimg S a = S a := by
  funext y
  unfold gimg
  rw [if_neg (by omega), if_neg (by omega), if_neg (by omega), if_neg (by omega), if_neg (by omega), if_neg (by omega), if_neg (by omega)]
theorem gkept_o {S : gS} {a : Nat} (h : a < 4 ∨ 10 ≤ a) : gkept S a = S a := by
  funext y
  unfold gkept
  rw [if_neg (by omega), if_neg (by omega), if_neg (by omega), if_neg (by omega), if_neg (by omega), if_neg (by omega)]
theorem gkept_k (S : gS) : gkept (gkept S) = gkept S := gkept_S (fun _ h => gkept_o h)
/-- the image of a state is the state, as far as a scene goes -/
theorem gkept_i (S : gS) : ∀ a, a < 10 → gkept (gimg S) a = S a := by
  intro a ha
  funext y
  unfold gkept
  match a, ha with
  | 0, _ => rfl
  | 1, _ => rfl
  | 2, _ => rfl
  | 3, _ => rfl
  | 4, _ => rfl
  | 5, _ => rfl
  | 6, _ => rfl
  | 7, _ => rfl
  | 8, _ => rfl
  | 9, _ => rfl
theorem RS.S {r : Nat} {h : qH} {S S' : gS} (hR : RS r h S) (e : ∀ a, a < 10 → S' a = S a) : RS r h S' := by
  unfold RS at hR ⊢
  rw [e 0 (by decide), e 4 (by decide), e 5 (by decide), e 6 (by decide), e 7 (by decide), e 8 (by decide), e 9 (by decide)]
  exact hR
theorem GB.S {S S' : gS} (hB : GB S) (e : ∀ a, a < 10 → S' a = S a) : GB S' := by
  unfold GB at hB ⊢
  rw [e 0 (by decide), e 1 (by decide), e 2 (by decide), e 3 (by decide), e 4 (by decide), e 5 (by decide)]
  exact hB
theorem GA.S {S S' : gS} (hA : GA S) (e : ∀ a, a < 10 → S' a = S a) : GA S' := by
  unfold GA at hA ⊢
  rw [e 0 (by decide), e 5 (by decide), e 7 (by decide), e 8 (by decide), e 9 (by decide)]
  exact hA
theorem RS.copy {r r' : Nat} {h h' : qH} {S : gS} (hB : GB S) (hA : GA S) (hR : RS r' h S) (e1 : ∀ k, k < 5 → h'.1 r k = h.1 r' k) (e2 : h'.1 r 7 = h.1 r' 7) (e3 : ∀ p, p < 4 → h'.1 (r + 1) p = h.1 (r' + 1) p) (e4 : ∀ i, i < 6 → h'.1 (r + 2) i = h.1 (r' + 2) i) : RS r h' S := by
  obtain ⟨r0, r1, r2, r3, r4, r7, r6, rq⟩ := hR
  have hn := hB.1
  have ha := hA.1
  unfold RS
  rw [e1 0 (by decide), e1 1 (by decide), e1 2 (by decide), e1 3 (by decide), e1 4 (by decide), e2]
  exact ⟨r0, r1, r2, r3, r4, r7, fun p hp => by rw [e3 p (by omega)]; exact r6 p hp, fun i hi => by rw [e4 i (by omega)]; exact rq i hi⟩
section QO2
variable {d : Nat} {h : qH} {K : qK} {S : gS}
theorem c_add {c : Int32} {n : Nat} (hn : n < 22) (e : h.1 1 1 = nI n) (hk : K none (qI (qI h 2 n c) 1 1 (nI (n + 1)))) : qCall (d + 1) 2 [.ref 1, .int c] h K := by
  refine call_wp (n := 60) (cut := []) _ (by decide) (Nat.lt_succ_self _) rfl rfl (Nat.le_of_ble_eq_true rfl) rfl ?_
  have hn31 : n < 2 ^ 31 := by omega
  refine And.intro (fun z => absurd z (by show ¬ h.1 1 1 < 0; rw [e]; exact nI_pos hn31)) (fun _ => ?_)
  refine And.intro (fun z => absurd z (by show ¬ nI 22 ≤ h.1 1 1; rw [e]; exact nI_ge hn (by omega))) (fun _ => ?_)
  refine And.intro (by show vp_in (h.1 1 1) 22; rw [e]; exact vp_in_nI hn (by decide)) ?_
  show K none (qI (qI h 2 (h.1 1 1).toNatClampNeg c) 1 1 ((qI h 2 (h.1 1 1).toNatClampNeg c).1 1 1 + 1))
  have e2 : (qI h 2 (h.1 1 1).toNatClampNeg c).1 1 1 = h.1 1 1 := by rw [qI_get, if_neg (by omega)]
  rw [e2, e, nI_clamp hn31, nI_1]
  exact hk
theorem x_letter {c : Int32} (hX : RX h S) (hG : RG S) (hk : ∀ h', Fr lX h h' → RX h' (uLetter S c) → K (some (.int (aLetter S c))) h') : qCall (d + 2) 45 [.ref 0, .int c] h K := by
  have e := hX.2.2.2.2.2.2.1
  have hl := hG.2.2.2.2.2.1
  unfold aLetter uLetter at hk
  refine call_wp (n := 60) (cut := []) _ (by decide) (Nat.lt_succ_self _) rfl rfl (Nat.le_of_ble_eq_true rfl) rfl ?_
  refine And.intro (fun c1 => ?_) (fun c1 => ?_)
  · have c1 : c < 32 := c1
    have hc : c < 32 ∨ 126 < c := Or.inl c1
    simp only [if_pos hc] at hk
    exact hk h Fr.rf hX
  · have c1 : ¬ c < 32 := c1
    refine And.intro (fun c2 => ?_) (fun c2 => ?_)
    · have c2 : c ≤ 126 := c2
      have hc : ¬ (c < 32 ∨ 126 < c) := fun z => z.elim c1 (Int32.not_lt.mpr c2)
      simp only [if_neg hc] at hk
      refine And.intro (fun c3 => ?_) (fun c3 => ?_)
      · have c3 : h.1 1 1 < nI 22 := c3
        rw [e, nI_ltI (by omega) (by omega)] at c3
        have hc2 : ¬ 22 ≤ S 10 0 := by omega
        simp only [if_neg hc2] at hk
        refine c_add c3 e ?_
        have hf : Fr [1, 2] h (qI (qI h 2 (S 10 0) c) 1 1 (nI (S 10 0 + 1))) := (Fr.rf.I (by decide)).I (by decide)
        have hc0 : ¬ c < 0 := fun z => c1 (Int32.lt_trans z (by decide))
        obtain ⟨j, hj, rfl⟩ := nI_of hc0
        refine hk _ (hf.mono (by decide)) ?_
        obtain ⟨x1, x2, x3, x4, x5, x6, x7, x8⟩ := hX
        have eg : gkept (sS (sS S 11 (S 10 0) (nI j).toNatClampNeg) 10 0 (S 10 0 + 1)) = sS (sS (gkept S) 11 (S 10 0) (nI j).toNatClampNeg) 10 0 (S 10 0 + 1) := by
          funext x y
          unfold gkept sS
          by_cases h4 : x = 4 ∨ x = 5 ∨ x = 6 ∨ x = 7 ∨ x = 8 ∨ x = 9
          · rcases h4 with rfl | rfl | rfl | rfl | rfl | rfl <;> rfl
          · simp only [not_or] at h4
            obtain ⟨z4, z5, z6, z7, z8, z9⟩ := h4
            simp only [if_neg z4, if_neg z5, if_neg z6, if_neg z7, if_neg z8, if_neg z9]
        have so : ∀ (T : gS) a, a < 10 → sS (sS T 11 (S 10 0) (nI j).toNatClampNeg) 10 0 (S 10 0 + 1) a = T a := fun T a ha => by rw [sS_ne (by omega), sS_ne (by omega)]
        have s13 : sS (sS S 11 (S 10 0) (nI j).toNatClampNeg) 10 0 (S 10 0 + 1) 13 = S 13 := by rw [sS_ne (by omega), sS_ne (by omega)]
        have s12 : sS (sS S 11 (S 10 0) (nI j).toNatClampNeg) 10 0 (S 10 0 + 1) 12 = S 12 := by rw [sS_ne (by omega), sS_ne (by omega)]
        have s10 : sS (sS S 11 (S 10 0) (nI j).toNatClampNeg) 10 0 (S 10 0 + 1) 10 0 = S 10 0 + 1 := sS_eq
        have s11 : sS (sS S 11 (S 10 0) (nI j).toNatClampNeg) 10 0 (S 10 0 + 1) 11 = sS S 11 (S 10 0) (nI j).toNatClampNeg 11 := sS_ne (by omega)
        refine ⟨(x1.fr hf (by decide) (by decide)).S (fun a ha => so S a (by omega)), (x2.fr hf (by decide) (by decide) (by decide)).S (so S), fun z => ?_, ?_, ?_, ?_, ?_, ?_⟩
        · rw [s13] at z
          rw [eg]
          exact ((x3 z).fr hf (by decide) (by decide) (by decide)).S (so _)
        · rw [s13, hf.1 0 (by decide)]
          exact x4
        · rw [s12, hf.1 0 (by decide)]
          exact x5
        · rw [s12, hf.1 0 (by decide)]
          exact x6
        · rw [s10]
          rfl
        · intro i hi
          rw [s10] at hi
          rw [s11]
          show (if 2 = 1 ∧ i = 1 then nI (S 10 0 + 1) else if 2 = 2 ∧ i = S 10 0 then nI j else h.1 2 i) = nI (if 11 = 11 ∧ i = S 10 0 then (nI j).toNatClampNeg else S 11 i)
          rw [if_neg (by omega)]
          by_cases ei : i = S 10 0
          · rw [if_pos ⟨rfl, ei⟩, if_pos ⟨rfl, ei⟩, nI_clamp hj]
          · rw [if_neg (fun z => ei z.2), if_neg (fun z => ei z.2)]
            exact x8 i (by omega)
      · have c3 : ¬ h.1 1 1 < nI 22 := c3
        rw [e, nI_ltI (by omega) (by omega)] at c3
        have hc2 : 22 ≤ S 10 0 := by omega
        simp only [if_pos hc2] at hk
        exact hk h Fr.rf hX
    · have c2 : ¬ c ≤ 126 := c2
      have hc : c < 32 ∨ 126 < c := Or.inr (Int32.not_le.mp c2)
      simp only [if_pos hc] at hk
      exact hk h Fr.rf hX
theorem x_blank (hX : RX h S) (hk : ∀ h', Fr lX h h' → RX h' (sS S 10 0 0) → K (some (.int (nI (S 10 0)))) h') : qCall (d + 1) 46 [.ref 0] h K := by
  refine call_wp (n := 40) (cut := []) _ (by decide) (Nat.lt_succ_self _) rfl rfl (Nat.le_of_ble_eq_true rfl) rfl ?_
  have hf : Fr [1] h (qI h 1 1 0) := Fr.rf.I (by decide)
  obtain ⟨x1, x2, x3, x4, x5, x6, x7, x8⟩ := hX
  have hk2 := hk (qI h 1 1 0) (hf.mono (by decide)) ?_
  · rw [← x7] at hk2
    exact hk2
  · have so : ∀ (T : gS) a, a ≠ 10 → sS T 10 0 0 a = T a := fun T a ha => sS_ne ha
    have eg : gkept (sS S 10 0 0) = sS (gkept S) 10 0 0 := by
      funext x y
      unfold gkept sS
      by_cases h4 : x = 4 ∨ x = 5 ∨ x = 6 ∨ x = 7 ∨ x = 8 ∨ x = 9
      · rcases h4 with rfl | rfl | rfl | rfl | rfl | rfl <;> rfl
      · simp only [not_or] at h4
        obtain ⟨z4, z5, z6, z7, z8, z9⟩ := h4
        simp only [if_neg z4, if_neg z5, if_neg z6, if_neg z7, if_neg z8, if_neg z9]
    refine ⟨(x1.fr hf (by decide) (by decide)).S (fun a ha => so S a (by omega)), (x2.fr hf (by decide) (by decide) (by decide)).S (fun a ha => so S a (by omega)), fun z => ?_, ?_, ?_, ?_, ?_, ?_⟩
    · rw [so S 13 (by decide)] at z
      rw [eg]
      exact ((x3 z).fr hf (by decide) (by decide) (by decide)).S (fun a ha => so _ a (by omega))
    · rw [so S 13 (by decide), hf.1 0 (by decide)]
      exact x4
    · rw [so S 12 (by decide), hf.1 0 (by decide)]
      exact x5
    · rw [so S 12 (by decide), hf.1 0 (by decide)]
      exact x6
    · rw [sS_eq]
      rfl
    · intro i hi
      rw [sS_eq] at hi
      omega
theorem c_addAsked {n p g : Nat} {so : Bool} (hn : n < 6) (hp : p < 4) (hg : g < 16) (e : h.1 5 7 = nI n) (hk : K none (qI (qI h 7 n (nI (16 * p + g + 64 * (if so then 1 else 0)))) 5 7 (nI (n + 1)))) : qCall (d + 1) 42 [.ref 5, .int (nI p), .int (nI g), .int (b2 so)] h K := by
  have hn31 : n < 2 ^ 31 := by omega
  have e2 : ∀ v, (qI h 7 (h.1 5 7).toNatClampNeg v).1 5 7 = h.1 5 7 := fun v => by rw [qI_get, if_neg (by omega)]
  cases so
  · refine call_wp (n := 60) (cut := []) _ (by decide) (Nat.lt_succ_self _) rfl rfl (Nat.le_of_ble_eq_true rfl) rfl ?_
    refine And.intro (fun z => absurd z (by show ¬ h.1 5 7 < 0; rw [e]; exact nI_pos hn31)) (fun _ => ?_)
    refine And.intro (fun z => absurd z (by show ¬ nI 6 ≤ h.1 5 7; rw [e]; exact nI_ge hn (by omega))) (fun _ => ?_)
    refine And.intro (fun _ => ?_) (fun c => absurd rfl c)
    refine And.intro (by show vp_in (h.1 5 7) 6; rw [e]; exact vp_in_nI hn (by decide)) ?_
    show K none (qI (qI h 7 (h.1 5 7).toNatClampNeg (nI 16 * nI p + nI g + nI 0)) 5 7 ((qI h 7 (h.1 5 7).toNatClampNeg (nI 16 * nI p + nI g + nI 0)).1 5 7 + 1))
    rw [e2, e, nI_clamp hn31, nI_1, pk_mul, nI_add, nI_add]
    exact hk
  · refine call_wp (n := 60) (cut := []) _ (by decide) (Nat.lt_succ_self _) rfl rfl (Nat.le_of_ble_eq_true rfl) rfl ?_
    refine And.intro (fun z => absurd z (by show ¬ h.1 5 7 < 0; rw [e]; exact nI_pos hn31)) (fun _ => ?_)
    refine And.intro (fun z => absurd z (by show ¬ nI 6 ≤ h.1 5 7; rw [e]; exact nI_ge hn (by omega))) (fun _ => ?_)
    refine And.intro (fun c => absurd c (by decide)) (fun _ => ?_)
    refine And.intro (by show vp_in (h.1 5 7) 6; rw [e]; exact vp_in_nI hn (by decide)) ?_
    show K none (qI (qI h 7 (h.1 5 7).toNatClampNeg (nI 16 * nI p + nI g + nI 64)) 5 7 ((qI h 7 (h.1 5 7).toNatClampNeg (nI 16 * nI p + nI g + nI 64)).1 5 7 + 1))
    rw [e2, e, nI_clamp hn31, nI_1, pk_mul, nI_add, nI_add]
    exact hk
theorem gask_o {S : gS} {n g b a : Nat} (h : a < 4 ∨ 10 ≤ a) : gask S n g b a = S a := by
  unfold gask
  rw [sS_ne (by omega), sS_ne (by omega), sS_ne (by omega), sS_ne (by omega)]
theorem x_ask {p s : Int32} {so : Bool} (hX : RX h S) (hG : RG S) (hk : ∀ h', Fr lX h h' → RX h' (uAsk S p s so) → K (some (.int (aAsk S p s))) h') : qCall (d + 2) 56 [.ref 0, .int p, .int s, .int (b2 so)] h K := by
  have hB := hG.1
  have hn0 := hB.1
  have ha0 := hG.2.1.1
  have e := hX.2.1.2.2.2.2.2.1
  unfold aAsk uAsk at hk
  refine call_wp (n := 60) (cut := []) _ (by decide) (Nat.lt_succ_self _) rfl rfl (Nat.le_of_ble_eq_true rfl) rfl ?_
  refine c_isPerson hX.1 hB (fun n hn ep => ?_) (fun hp => ?_)
  · subst ep
    rw [ip_some hB hn] at hk
    dsimp only at hk
    refine And.intro (fun c => absurd c (by decide)) (fun _ => ?_)
    refine And.intro (fun c1 => ?_) (fun c1 => ?_)
    · rw [show ix s 16 = none from ix_none (by decide) (fun j hj z => nI_pos (by omega) (z ▸ c1))] at hk
      exact hk h Fr.rf hX
    · obtain ⟨q, hq, rfl⟩ := nI_of c1
      refine And.intro (fun c2 => ?_) (fun c2 => ?_)
      · have c2 : nI q ≤ nI 15 := c2
        rw [nI_leI (by omega) (by omega)] at c2
        rw [ix_some (n := q) (by omega) (by decide)] at hk
        dsimp only at hk
        refine And.intro (fun c3 => ?_) (fun c3 => ?_)
        · have c3 : h.1 5 7 < nI 6 := c3
          rw [e, nI_ltI (by omega) (by omega)] at c3
          have hc2 : ¬ 6 ≤ S 5 4 := by omega
          simp only [if_neg hc2] at hk
          refine c_addAsked c3 (by omega) (by omega) e ?_
          have hf : Fr [5, 6, 7] h (qI (qI h 7 (S 5 4) (nI (16 * n + q + 64 * (if so then 1 else 0)))) 5 7 (nI (S 5 4 + 1))) := (Fr.rf.I (by decide)).I (by decide)
          refine hk _ (hf.mono (by decide)) (hX.scene hf ?_ (fun a ha => gask_o ha))
          obtain ⟨r0, r1, r2, r3, r4, r7, r6, rq⟩ := hX.2.1
          have hb2 : (if so then 1 else 0 : Nat) < 2 := by split <;> decide
          generalize (if so then 1 else 0 : Nat) = b at hb2 ⊢
          have g0 : gask S n q b 0 = S 0 := gask_o (Or.inl (by decide))
          have g4 : gask S n q b 4 = S 4 := by unfold gask; rw [sS_ne (by omega), sS_ne (by omega), sS_ne (by omega), sS_ne (by omega)]
          have g6 : gask S n q b 6 = S 6 := by unfold gask; rw [sS_ne (by omega), sS_ne (by omega), sS_ne (by omega), sS_ne (by omega)]
          have g5 : ∀ y, y ≠ 4 → gask S n q b 5 y = S 5 y := fun y hy => by unfold gask; rw [sS_nb hy, sS_ne (by omega), sS_ne (by omega), sS_ne (by omega)]
          have g54 : gask S n q b 5 4 = S 5 4 + 1 := sS_eq
          have g7 : ∀ i, gask S n q b 7 i = if i = S 5 4 then n else S 7 i := fun i => by
            unfold gask
            rw [sS_ne (by omega), sS_ne (by omega), sS_ne (by omega)]
            by_cases z : i = S 5 4
            · rw [if_pos z, z, sS_eq]
            · rw [if_neg z, sS_nb z]
          have g8 : ∀ i, gask S n q b 8 i = if i = S 5 4 then q else S 8 i := fun i => by
            unfold gask
            rw [sS_ne (by omega), sS_ne (by omega)]
            by_cases z : i = S 5 4
            · rw [if_pos z, z, sS_eq]
            · rw [if_neg z, sS_nb z, sS_ne (by omega)]
          have g9 : ∀ i, gask S n q b 9 i = if i = S 5 4 then b else S 9 i := fun i => by
            unfold gask
            rw [sS_ne (by omega)]
            by_cases z : i = S 5 4
            · rw [if_pos z, z, sS_eq]
            · rw [if_neg z, sS_nb z, sS_ne (by omega), sS_ne (by omega)]
          unfold RS
          rw [g0, g4, g6, g5 0 (by decide), g5 1 (by decide), g5 2 (by decide), g5 3 (by decide), g54]
          refine ⟨r0, r1, r2, r3, r4, rfl, r6, fun i hi => ?_⟩
          rw [g7, g8, g9]
          show (if 5 + 2 = 5 ∧ i = 7 then nI (S 5 4 + 1) else if 5 + 2 = 7 ∧ i = S 5 4 then nI (16 * n + q + 64 * b) else h.1 (5 + 2) i) = _
          rw [if_neg (by omega)]
          by_cases z : i = S 5 4
          · rw [if_pos ⟨rfl, z⟩, if_pos z, if_pos z, if_pos z]
          · rw [if_neg (fun w => z w.2), if_neg z, if_neg z, if_neg z]
            exact rq i (by omega)
        · have c3 : ¬ h.1 5 7 < nI 6 := c3
          rw [e, nI_ltI (by omega) (by omega)] at c3
          have hc2 : 6 ≤ S 5 4 := by omega
          simp only [if_pos hc2] at hk
          exact hk h Fr.rf hX
      · have c2 : ¬ nI q ≤ nI 15 := c2
        rw [nI_leI (by omega) (by omega)] at c2
        rw [show ix (nI q) 16 = none from ix_none (by decide) (fun j hj z => by rw [nI_eq (by omega) (by omega)] at z; omega)] at hk
        exact hk h Fr.rf hX
  · rw [ip_none hB hp] at hk
    refine And.intro (fun _ => ?_) (fun c => absurd rfl c)
    exact hk h Fr.rf hX
theorem x_forget (hX : RX h S) (hk : ∀ h', Fr lX h h' → RX h' (sS S 5 4 0) → K (some (.int (nI (S 5 4)))) h') : qCall (d + 1) 57 [.ref 0] h K := by
  refine call_wp (n := 40) (cut := []) _ (by decide) (Nat.lt_succ_self _) rfl rfl (Nat.le_of_ble_eq_true rfl) rfl ?_
  have hf : Fr [5, 6, 7] h (qI h 5 7 0) := Fr.rf.I (by decide)
  have hk2 := hk (qI h 5 7 0) (hf.mono (by decide)) (hX.scene hf ?_ (fun a ha => sS_ne (by omega)))
  · rw [← hX.2.1.2.2.2.2.2.1] at hk2
    exact hk2
  · obtain ⟨r0, r1, r2, r3, r4, r7, r6, rq⟩ := hX.2.1
    unfold RS
    rw [show sS S 5 4 0 0 = S 0 from sS_ne (by decide), show sS S 5 4 0 4 = S 4 from sS_ne (by decide), show sS S 5 4 0 6 = S 6 from sS_ne (by decide), show sS S 5 4 0 5 0 = S 5 0 from sS_nb (by decide), show sS S 5 4 0 5 1 = S 5 1 from sS_nb (by decide), show sS S 5 4 0 5 2 = S 5 2 from sS_nb (by decide), show sS S 5 4 0 5 3 = S 5 3 from sS_nb (by decide), sS_eq]
    exact ⟨r0, r1, r2, r3, r4, rfl, r6, fun i hi => by omega⟩
theorem ix10 {w : Int32} (c0 : ¬ w = Int32.ofInt 0) (c1 : ¬ w = Int32.ofInt 1) (c2 : ¬ w = Int32.ofInt 2) (c3 : ¬ w = Int32.ofInt 3) (c4 : ¬ w = Int32.ofInt 4) (c5 : ¬ w = Int32.ofInt 5) (c6 : ¬ w = Int32.ofInt 6) (c7 : ¬ w = Int32.ofInt 7) (c8 : ¬ w = Int32.ofInt 8) (c9 : ¬ w = Int32.ofInt 9) : ix w 10 = none := by
  refine ix_none (by decide) (fun n hn z => ?_)
  match n, hn with
  | 0, _ => exact c0 z
  | 1, _ => exact c1 z
  | 2, _ => exact c2 z
  | 3, _ => exact c3 z
  | 4, _ => exact c4 z
  | 5, _ => exact c5 z
  | 6, _ => exact c6 z
  | 7, _ => exact c7 z
  | 8, _ => exact c8 z
  | 9, _ => exact c9 z
theorem x_count {w : Int32} (hX : RX h S) (hG : RG S) (hk : K (some (.int (aCount S w))) h) : qCall (d + 5) 63 [.ref 0, .int w] h K := by
  have hB := hG.1
  have hn0 := hB.1
  unfold aCount at hk
  refine call_wp (n := 60) (cut := []) _ (by decide) (Nat.lt_succ_self _) rfl rfl (Nat.le_of_ble_eq_true rfl) rfl ?_
  refine And.intro (fun c0 => ?_) (fun c0 => ?_)
  · rw [c0, show ix (Int32.ofInt 0) 10 = some 0 by decide +kernel] at hk
    exact kI hk hX.1.1.symm
  · have _u := 0
    refine And.intro (fun c1 => ?_) (fun c1 => ?_)
    · rw [c1, show ix (Int32.ofInt 1) 10 = some 1 by decide +kernel] at hk
      exact c_howManyInfer (Or.inl rfl) hX.1 hX.2.1 hB hk
    · have _u := 0
      refine And.intro (fun c2 => ?_) (fun c2 => ?_)
      · rw [c2, show ix (Int32.ofInt 2) 10 = some 2 by decide +kernel] at hk
        show qCall _ 135 [.int (h.1 5 1)] h _
        rw [hX.2.1.2.1]
        exact c_bitCount (by have := hB.2.2.2.1; omega) hk
      · have _u := 0
        refine And.intro (fun c3 => ?_) (fun c3 => ?_)
        · rw [c3, show ix (Int32.ofInt 3) 10 = some 3 by decide +kernel] at hk
          show qCall _ 135 [.int (h.1 5 2)] h _
          rw [hX.2.1.2.2.1]
          exact c_bitCount (by have := hB.2.2.2.2.1; omega) hk
        · have _u := 0
          refine And.intro (fun c4 => ?_) (fun c4 => ?_)
          · rw [c4, show ix (Int32.ofInt 4) 10 = some 4 by decide +kernel] at hk
            show qCall _ 135 [.int (h.1 5 3)] h _
            rw [hX.2.1.2.2.2.1]
            exact c_bitCount (by have := hB.2.2.2.2.2; omega) hk
          · have _u := 0
            refine And.intro (fun c5 => ?_) (fun c5 => ?_)
            · rw [c5, show ix (Int32.ofInt 5) 10 = some 5 by decide +kernel] at hk
              exact kI hk hX.2.1.2.2.2.2.1.symm
            · have _u := 0
              refine And.intro (fun c6 => ?_) (fun c6 => ?_)
              · rw [c6, show ix (Int32.ofInt 6) 10 = some 6 by decide +kernel] at hk
                exact kI hk hX.2.1.2.2.2.2.2.1.symm
              · have _u := 0
                refine And.intro (fun c7 => ?_) (fun c7 => ?_)
                · rw [c7, show ix (Int32.ofInt 7) 10 = some 7 by decide +kernel] at hk
                  exact kI hk hX.2.2.2.2.2.2.1.symm
                · have _u := 0
                  refine And.intro (fun c8 => ?_) (fun c8 => ?_)
                  · rw [c8, show ix (Int32.ofInt 8) 10 = some 8 by decide +kernel] at hk
                    exact kI hk hX.2.2.2.2.1.symm
                  · have _u := 0
                    refine And.intro (fun c9 => ?_) (fun c9 => ?_)
                    · rw [c9, show ix (Int32.ofInt 9) 10 = some 9 by decide +kernel] at hk
                      exact kI hk hX.2.2.2.2.2.1.symm
                    · rw [ix10 c0 c1 c2 c3 c4 c5 c6 c7 c8 c9] at hk
                      exact hk
end QO2
end
section
/-! ## copies of scenes, the image -/
/-- behind the six numbers: the scene at r is that at r2, so far as n words and i questions go -/
def cpI (r r2 : Nat) (h h1 : qH) (n i : Nat) : Prop := Fr [r, r + 1, r + 2] h h1 ∧ (∀ k, k < 5 → h1.1 r k = h.1 r2 k) ∧ h1.1 r 7 = h.1 r2 7 ∧ (∀ p, p < n → h1.1 (r + 1) p = h.1 (r2 + 1) p) ∧ ∀ j, j < i → h1.1 (r + 2) j = h.1 (r2 + 2) j
section QCP
variable {d : Nat} {h : qH} {K : qK} {S : gS}
theorem l_cpB_8 (hk : ∀ h', cpI 8 5 h h' 4 6 → K none h') : ∀ m i, i + m = 6 → ∀ h1, cpI 8 5 h h1 4 i → qAt (d + 1, 27, none, q0, K) 42 [some (.ref 8), some (.ref 5), some (.int (nI i))] [] h1 := by
  intro m
  induction m with
  | zero =>
    intro i hi h1 hc
    have hi : i = 6 := by omega
    subst hi
    refine at_wp [] 12 (Nat.le_of_ble_eq_true rfl) rfl ?_
    refine And.intro (fun _ => ?_) (fun c => absurd (by decide) c)
    exact hk h1 hc
  | succ m ih =>
    intro i hi h1 hc
    have hi31 : i < 2 ^ 31 := by omega
    refine at_wp [42] 40 (Nat.le_of_ble_eq_true rfl) rfl ?_
    refine And.intro (fun c => absurd c (nI_ge (a := i) (b := 6) (by omega) (by decide))) (fun _ => ?_)
    refine c_askedAt (r := 5) (Or.inl rfl) (by omega) ?_
    refine And.intro (vp_in_nI (by omega) (by decide)) ?_
    have hc2 : cpI 8 5 h (qI h1 (8 + 2) i (h1.1 (5 + 2) i)) 4 (i + 1) := by
      obtain ⟨z1, z2, z3, z4, z5⟩ := hc
      refine ⟨z1.I (by decide), fun k hk => ?_, ?_, fun p hp => ?_, fun j hj => ?_⟩
      · rw [qI_get, if_neg (by omega)]
        exact z2 k hk
      · rw [qI_get, if_neg (by omega)]
        exact z3
      · rw [qI_get, if_neg (by omega)]
        exact z4 p hp
      · rw [qI_get, z1.1 (5 + 2) (by decide)]
        by_cases e : j = i
        · rw [if_pos ⟨rfl, e⟩, e]
        · rw [if_neg (fun z => e z.2)]
          exact z5 j (by omega)
    have := ih (i + 1) (by omega) _ hc2
    rw [← nI_1] at this
    have e : (nI i).toNatClampNeg = i := nI_clamp hi31
    show qAt _ 42 [some (.ref 8), some (.ref 5), some (.int (nI i + 1))] [] (qI h1 (8 + 2) (nI i).toNatClampNeg (h1.1 (5 + 2) i))
    rw [e]
    exact this
theorem l_cpA_8 (hk : ∀ h', cpI 8 5 h h' 4 6 → K none h') : ∀ m n, n + m = 4 → ∀ h1, cpI 8 5 h h1 n 0 → qAt (d + 1, 27, none, q0, K) 26 [some (.ref 8), some (.ref 5), some (.int (nI n))] [] h1 := by
  intro m
  induction m with
  | zero =>
    intro i hi h1 hc
    have hi : i = 4 := by omega
    subst hi
    refine at_wp [42] 12 (Nat.le_of_ble_eq_true rfl) rfl ?_
    refine And.intro (fun _ => ?_) (fun c => absurd (by decide) c)
    exact l_cpB_8 hk 6 0 rfl h1 hc
  | succ m ih =>
    intro i hi h1 hc
    have hi31 : i < 2 ^ 31 := by omega
    refine at_wp [26] 40 (Nat.le_of_ble_eq_true rfl) rfl ?_
    refine And.intro (fun c => absurd c (nI_ge (a := i) (b := 4) (by omega) (by decide))) (fun _ => ?_)
    refine c_wordsOf (r := 5) (Or.inl rfl) (by omega) ?_
    refine And.intro (vp_in_nI (by omega) (by decide)) ?_
    have hc2 : cpI 8 5 h (qI h1 (8 + 1) i (h1.1 (5 + 1) i)) (i + 1) 0 := by
      obtain ⟨z1, z2, z3, z4, z5⟩ := hc
      refine ⟨z1.I (by decide), fun k hk => ?_, ?_, fun j hj => ?_, fun j hj => by omega⟩
      · rw [qI_get, if_neg (by omega)]
        exact z2 k hk
      · rw [qI_get, if_neg (by omega)]
        exact z3
      · rw [qI_get, z1.1 (5 + 1) (by decide)]
        by_cases e : j = i
        · rw [if_pos ⟨rfl, e⟩, e]
        · rw [if_neg (fun z => e z.2)]
          exact z4 j (by omega)
    have := ih (i + 1) (by omega) _ hc2
    rw [← nI_1] at this
    have e : (nI i).toNatClampNeg = i := nI_clamp hi31
    show qAt _ 26 [some (.ref 8), some (.ref 5), some (.int (nI i + 1))] [] (qI h1 (8 + 1) (nI i).toNatClampNeg (h1.1 (5 + 1) i))
    rw [e]
    exact this
theorem c_copy_8 (hk : ∀ h', cpI 8 5 h h' 4 6 → K none h') : qCall (d + 2) 27 [.ref 8, .ref 5] h K := by
  refine call_wp (n := 26) (cut := []) _ (by decide) (Nat.lt_succ_self _) rfl rfl (Nat.le_of_ble_eq_true rfl) rfl ?_
  have hc : cpI 8 5 h (qI (qI (qI (qI (qI (qI h 8 0 (h.1 5 0)) 8 1 (h.1 5 1)) 8 2 (h.1 5 2)) 8 3 (h.1 5 3)) 8 4 (h.1 5 4)) 8 7 (h.1 5 7)) 0 0 := by
    refine ⟨((((((Fr.rf.I (by decide)).I (by decide)).I (by decide)).I (by decide)).I (by decide)).I (by decide)), fun k hk => ?_, ?_, fun j hj => by omega, fun j hj => by omega⟩
    · rcases (show k = 0 ∨ k = 1 ∨ k = 2 ∨ k = 3 ∨ k = 4 by omega) with rfl | rfl | rfl | rfl | rfl <;> simp [qI_get]
    · simp [qI_get]
  exact l_cpA_8 hk 4 0 rfl _ hc
theorem l_cpB_5 (hk : ∀ h', cpI 5 8 h h' 4 6 → K none h') : ∀ m i, i + m = 6 → ∀ h1, cpI 5 8 h h1 4 i → qAt (d + 1, 27, none, q0, K) 42 [some (.ref 5), some (.ref 8), some (.int (nI i))] [] h1 := by
  intro m
  induction m with
  | zero =>
    intro i hi h1 hc
    have hi : i = 6 := by omega
    subst hi
    refine at_wp [] 12 (Nat.le_of_ble_eq_true rfl) rfl ?_
    refine And.intro (fun _ => ?_) (fun c => absurd (by decide) c)
    exact hk h1 hc
  | succ m ih =>
    intro i hi h1 hc
    have hi31 : i < 2 ^ 31 := by omega
    refine at_wp [42] 40 (Nat.le_of_ble_eq_true rfl) rfl ?_
    refine And.intro (fun c => absurd c (nI_ge (a := i) (b := 6) (by omega) (by decide))) (fun _ => ?_)
    refine c_askedAt (r := 8) (Or.inr rfl) (by omega) ?_
    refine And.intro (vp_in_nI (by omega) (by decide)) ?_
    have hc2 : cpI 5 8 h (qI h1 (5 + 2) i (h1.1 (8 + 2) i)) 4 (i + 1) := by
      obtain ⟨z1, z2, z3, z4, z5⟩ := hc
      refine ⟨z1.I (by decide), fun k hk => ?_, ?_, fun p hp => ?_, fun j hj => ?_⟩
      · rw [qI_get, if_neg (by omega)]
        exact z2 k hk
      · rw [qI_get, if_neg (by omega)]
        exact z3
      · rw [qI_get, if_neg (by omega)]
        exact z4 p hp
      · rw [qI_get, z1.1 (8 + 2) (by decide)]
        by_cases e : j = i
        · rw [if_pos ⟨rfl, e⟩, e]
        · rw [if_neg (fun z => e z.2)]
          exact z5 j (by omega)
    have := ih (i + 1) (by omega) _ hc2
    rw [← nI_1] at this
    have e : (nI i).toNatClampNeg = i := nI_clamp hi31
    show qAt _ 42 [some (.ref 5), some (.ref 8), some (.int (nI i + 1))] [] (qI h1 (5 + 2) (nI i).toNatClampNeg (h1.1 (8 + 2) i))
    rw [e]
    exact this
theorem l_cpA_5 (hk : ∀ h', cpI 5 8 h h' 4 6 → K none h') : ∀ m n, n + m = 4 → ∀ h1, cpI 5 8 h h1 n 0 → qAt (d + 1, 27, none, q0, K) 26 [some (.ref 5), some (.ref 8), some (.int (nI n))] [] h1 := by
  intro m
  induction m with
  | zero =>
    intro i hi h1 hc
    have hi : i = 4 := by omega
    subst hi
    refine at_wp [42] 12 (Nat.le_of_ble_eq_true rfl) rfl ?_
    refine And.intro (fun _ => ?_) (fun c => absurd (by decide) c)
    exact l_cpB_5 hk 6 0 rfl h1 hc
  | succ m ih =>
    intro i hi h1 hc
    have hi31 : i < 2 ^ 31 := by omega
    refine at_wp [26] 40 (Nat.le_of_ble_eq_true rfl) rfl ?_
    refine And.intro (fun c => absurd c (nI_ge (a := i) (b := 4) (by omega) (by decide))) (fun _ => ?_)
    refine c_wordsOf (r := 8) (Or.inr rfl) (by omega) ?_
    refine And.intro (vp_in_nI (by omega) (by decide)) ?_
    have hc2 : cpI 5 8 h (qI h1 (5 + 1) i (h1.1 (8 + 1) i)) (i + 1) 0 := by
      obtain ⟨z1, z2, z3, z4, z5⟩ := hc
      refine ⟨z1.I (by decide), fun k hk => ?_, ?_, fun j hj => ?_, fun j hj => by omega⟩
      · rw [qI_get, if_neg (by omega)]
        exact z2 k hk
      · rw [qI_get, if_neg (by omega)]
        exact z3
      · rw [qI_get, z1.1 (8 + 1) (by decide)]
        by_cases e : j = i
        · rw [if_pos ⟨rfl, e⟩, e]
        · rw [if_neg (fun z => e z.2)]
          exact z4 j (by omega)
    have := ih (i + 1) (by omega) _ hc2
    rw [← nI_1] at this
    have e : (nI i).toNatClampNeg = i := nI_clamp hi31
    show qAt _ 26 [some (.ref 5), some (.ref 8), some (.int (nI i + 1))] [] (qI h1 (5 + 1) (nI i).toNatClampNeg (h1.1 (8 + 1) i))
    rw [e]
    exact this
theorem c_copy_5 (hk : ∀ h', cpI 5 8 h h' 4 6 → K none h') : qCall (d + 2) 27 [.ref 5, .ref 8] h K := by
  refine call_wp (n := 26) (cut := []) _ (by decide) (Nat.lt_succ_self _) rfl rfl (Nat.le_of_ble_eq_true rfl) rfl ?_
  have hc : cpI 5 8 h (qI (qI (qI (qI (qI (qI h 5 0 (h.1 8 0)) 5 1 (h.1 8 1)) 5 2 (h.1 8 2)) 5 3 (h.1 8 3)) 5 4 (h.1 8 4)) 5 7 (h.1 8 7)) 0 0 := by
    refine ⟨((((((Fr.rf.I (by decide)).I (by decide)).I (by decide)).I (by decide)).I (by decide)).I (by decide)), fun k hk => ?_, ?_, fun j hj => by omega, fun j hj => by omega⟩
    · rcases (show k = 0 ∨ k = 1 ∨ k = 2 ∨ k = 3 ∨ k = 4 by omega) with rfl | rfl | rfl | rfl | rfl <;> simp [qI_get]
    · simp [qI_get]
  exact l_cpA_5 hk 4 0 rfl _ hc
theorem l_cpB_11 (hk : ∀ h', cpI 11 5 h h' 4 6 → K none h') : ∀ m i, i + m = 6 → ∀ h1, cpI 11 5 h h1 4 i → qAt (d + 1, 27, none, q0, K) 42 [some (.ref 11), some (.ref 5), some (.int (nI i))] [] h1 := by
  intro m
  induction m with
  | zero =>
    intro i hi h1 hc
    have hi : i = 6 := by omega
    subst hi
    refine at_wp [] 12 (Nat.le_of_ble_eq_true rfl) rfl ?_
    refine And.intro (fun _ => ?_) (fun c => absurd (by decide) c)
    exact hk h1 hc
  | succ m ih =>
    intro i hi h1 hc
    have hi31 : i < 2 ^ 31 := by omega
    refine at_wp [42] 40 (Nat.le_of_ble_eq_true rfl) rfl ?_
    refine And.intro (fun c => absurd c (nI_ge (a := i) (b := 6) (by omega) (by decide))) (fun _ => ?_)
    refine c_askedAt (r := 5) (Or.inl rfl) (by omega) ?_
    refine And.intro (vp_in_nI (by omega) (by decide)) ?_
    have hc2 : cpI 11 5 h (qI h1 (11 + 2) i (h1.1 (5 + 2) i)) 4 (i + 1) := by
      obtain ⟨z1, z2, z3, z4, z5⟩ := hc
      refine ⟨z1.I (by decide), fun k hk => ?_, ?_, fun p hp => ?_, fun j hj => ?_⟩
      · rw [qI_get, if_neg (by omega)]
        exact z2 k hk
      · rw [qI_get, if_neg (by omega)]
        exact z3
      · rw [qI_get, if_neg (by omega)]
        exact z4 p hp
      · rw [qI_get, z1.1 (5 + 2) (by decide)]
        by_cases e : j = i
        · rw [if_pos ⟨rfl, e⟩, e]
        · rw [if_neg (fun z => e z.2)]
          exact z5 j (by omega)
    have := ih (i + 1) (by omega) _ hc2
    rw [← nI_1] at this
    have e : (nI i).toNatClampNeg = i := nI_clamp hi31
    show qAt _ 42 [some (.ref 11), some (.ref 5), some (.int (nI i + 1))] [] (qI h1 (11 + 2) (nI i).toNatClampNeg (h1.1 (5 + 2) i))
    rw [e]
    exact this
theorem l_cpA_11 (hk : ∀ h', cpI 11 5 h h' 4 6 → K none h') : ∀ m n, n + m = 4 → ∀ h1, cpI 11 5 h h1 n 0 → qAt (d + 1, 27, none, q0, K) 26 [some (.ref 11), some (.ref 5), some (.int (nI n))] [] h1 := by
  intro m
  induction m with
  | zero =>
    intro i hi h1 hc
    have hi : i = 4 := by omega
    subst hi
    refine at_wp [42] 12 (Nat.le_of_ble_eq_true rfl) rfl ?_
    refine And.intro (fun _ => ?_) (fun c => absurd (by decide) c)
    exact l_cpB_11 hk 6 0 rfl h1 hc
  | succ m ih =>
    intro i hi h1 hc
    have hi31 : i < 2 ^ 31 := by omega
    refine at_wp [26] 40 (Nat.le_of_ble_eq_true rfl) rfl ?_
    refine And.intro (fun c => absurd c (nI_ge (a := i) (b := 4) (by omega) (by decide))) (fun _ => ?_)
    refine c_wordsOf (r := 5) (Or.inl rfl) (by omega) ?_
    refine And.intro (vp_in_nI (by omega) (by decide)) ?_
    have hc2 : cpI 11 5 h (qI h1 (11 + 1) i (h1.1 (5 + 1) i)) (i + 1) 0 := by
      obtain ⟨z1, z2, z3, z4, z5⟩ := hc
      refine ⟨z1.I (by decide), fun k hk => ?_, ?_, fun j hj => ?_, fun j hj => by omega⟩
      · rw [qI_get, if_neg (by omega)]
        exact z2 k hk
      · rw [qI_get, if_neg (by omega)]
        exact z3
      · rw [qI_get, z1.1 (5 + 1) (by decide)]
        by_cases e : j = i
        · rw [if_pos ⟨rfl, e⟩, e]
        · rw [if_neg (fun z => e z.2)]
          exact z4 j (by omega)
    have := ih (i + 1) (by omega) _ hc2
    rw [← nI_1] at this
    have e : (nI i).toNatClampNeg = i := nI_clamp hi31
    show qAt _ 26 [some (.ref 11), some (.ref 5), some (.int (nI i + 1))] [] (qI h1 (11 + 1) (nI i).toNatClampNeg (h1.1 (5 + 1) i))
    rw [e]
    exact this
theorem c_copy_11 (hk : ∀ h', cpI 11 5 h h' 4 6 → K none h') : qCall (d + 2) 27 [.ref 11, .ref 5] h K := by
  refine call_wp (n := 26) (cut := []) _ (by decide) (Nat.lt_succ_self _) rfl rfl (Nat.le_of_ble_eq_true rfl) rfl ?_
  have hc : cpI 11 5 h (qI (qI (qI (qI (qI (qI h 11 0 (h.1 5 0)) 11 1 (h.1 5 1)) 11 2 (h.1 5 2)) 11 3 (h.1 5 3)) 11 4 (h.1 5 4)) 11 7 (h.1 5 7)) 0 0 := by
    refine ⟨((((((Fr.rf.I (by decide)).I (by decide)).I (by decide)).I (by decide)).I (by decide)).I (by decide)), fun k hk => ?_, ?_, fun j hj => by omega, fun j hj => by omega⟩
    · rcases (show k = 0 ∨ k = 1 ∨ k = 2 ∨ k = 3 ∨ k = 4 by omega) with rfl | rfl | rfl | rfl | rfl <;> simp [qI_get]
    · simp [qI_get]
  exact l_cpA_11 hk 4 0 rfl _ hc
theorem x_image (hX : RX h S) (hG : RG S) (hk : ∀ h', Fr lX h h' → RX h' (uImage S) → K (some (.int (aImage S))) h') : qCall (d + 3) 61 [.ref 0] h K := by
  have hB := hG.1
  have hn0 := hB.1
  have e := hX.1.1
  unfold aImage uImage at hk
  refine call_wp (n := 40) (cut := []) _ (by decide) (Nat.lt_succ_self _) rfl rfl (Nat.le_of_ble_eq_true rfl) rfl ?_
  refine And.intro (fun c1 => ?_) (fun c1 => ?_)
  · have c1 : h.1 3 0 = nI 0 := c1
    rw [e, nI_eq (by omega) (by omega)] at c1
    simp only [if_pos c1] at hk
    exact hk h Fr.rf hX
  · have c1 : ¬ h.1 3 0 = nI 0 := c1
    rw [e, nI_eq (by omega) (by omega)] at c1
    simp only [if_neg c1] at hk
    refine c_copy_8 (fun h' hc => ?_)
    obtain ⟨z1, z2, z3, z4, z5⟩ := hc
    refine And.intro (Or.inr rfl) ?_
    have hf : Fr [0, 8, 9, 10] h (qI h' 0 6 1) := (z1.mono (by decide)).I (by decide)
    obtain ⟨x1, x2, x3, x4, x5, x6, x7, x8⟩ := hX
    have hk2 := hk (qI h' 0 6 1) (hf.mono (by decide)) ?_
    · have e2 : (qI h' 0 6 1).1 5 4 = nI (S 5 3) := by
        rw [qI_get, if_neg (by omega), z1.1 5 (by decide)]
        exact x2.2.2.2.2.1
      rw [← e2] at hk2
      exact hk2
    · have so : ∀ a, a < 10 → gimg S a = S a := fun a ha => gimg_o (by omega)
      have r8 : RS 8 h' S := RS.copy hB hG.2.1 x2 z2 z3 z4 z5
      have f2 : Fr [0] h' (qI h' 0 6 1) := Fr.rf.I (by decide)
      refine ⟨(x1.fr hf (by decide) (by decide)).S (fun a ha => so a (by omega)), (x2.fr hf (by decide) (by decide) (by decide)).S so, fun _ => (r8.fr f2 (by decide) (by decide) (by decide)).S (gkept_i S), rfl, ?_, ?_, ?_, ?_⟩
      · rw [gimg_o (by omega), qI_get, if_neg (by omega), z1.1 0 (by decide)]
        exact x5
      · rw [gimg_o (by omega), qI_get, if_neg (by omega), z1.1 0 (by decide)]
        exact x6
      · rw [gimg_o (by omega), hf.1 1 (by decide)]
        exact x7
      · rw [gimg_o (by omega), gimg_o (by omega), hf.1 2 (by decide)]
        exact x8
theorem x_restore (hX : RX h S) (hG : RG S) (hk : ∀ h', Fr lX h h' → RX h' (uRestore S) → K (some (.int (aRestore S))) h') : qCall (d + 3) 62 [.ref 0] h K := by
  have hB := hG.1
  have h13 := hG.2.2.2.1
  have e := hX.2.2.2.1
  unfold aRestore uRestore at hk
  refine call_wp (n := 40) (cut := []) _ (by decide) (Nat.lt_succ_self _) rfl rfl (Nat.le_of_ble_eq_true rfl) rfl ?_
  refine And.intro (fun c1 => ?_) (fun c1 => ?_)
  · have c1 : h.1 0 6 = nI 0 := c1
    rw [e, nI_eq (by omega) (by omega)] at c1
    simp only [if_pos c1] at hk
    exact hk h Fr.rf hX
  · have c1 : ¬ h.1 0 6 = nI 0 := c1
    rw [e, nI_eq (by omega) (by omega)] at c1
    simp only [if_neg c1] at hk
    have h1 : S 13 0 = 1 := by omega
    obtain ⟨kB, kA⟩ := hG.2.2.1 h1
    refine c_copy_5 (fun h' hc => ?_)
    obtain ⟨z1, z2, z3, z4, z5⟩ := hc
    have hk2 := hk h' (z1.mono (by decide)) ?_
    · have e2 : h'.1 5 4 = nI (S 15 3) := by
        rw [z2 4 (by decide)]
        exact (hX.2.2.1 h1).2.2.2.2.1
      rw [← e2] at hk2
      exact hk2
    · have r5 : RS 5 h' (gkept S) := RS.copy kB kA (hX.2.2.1 h1) z2 z3 z4 z5
      exact hX.scene z1 r5 (fun a ha => gkept_o ha)
end QCP
end
section
/-! ## the reference: its court and scene -/
def RMc (h : qH) (S : gS) : Prop := h.1 15 1 = nI (S 0 0) ∧ (∀ p, p < S 0 0 → h.1 16 p = nI (S 1 p) ∧ h.1 17 p = nI (S 2 p) ∧ h.1 18 p = nI (S 4 p) ∧ h.1 19 p = nI (S 6 p)) ∧ (∀ k, k < 4 → h.1 20 k = nI (S 3 k)) ∧ h.1 15 7 = nI (S 5 2) ∧ h.1 15 8 = nI (S 5 0) ∧ h.1 15 9 = nI (S 5 1) ∧ h.1 15 10 = nI (S 5 3) ∧ h.1 15 11 = nI (S 5 4) ∧ ∀ i, i < S 5 4 → h.1 21 i = nI (S 7 i) ∧ h.1 22 i = nI (S 8 i) ∧ h.1 23 i = nI (S 9 i)
def gtogN (S : gS) (s : Nat) : Nat → Nat
  | 0 => 0
  | k + 1 => gtogN S s k + (if s.testBit k then S 3 k else 0)
theorem gtogN_4 (S : gS) (s : Nat) : gtogN S s 4 = gtog S s := by
  unfold gtog
  simp only [gtogN]
  omega
theorem bit_in : ∀ s, s < 512 → ∀ k, k < 9 → (nI s >>> (nI k &&& 31) &&& 1 = 1 ↔ s.testBit k = true) := by decide +kernel
theorem bit_val : ∀ s, s < 16 → ∀ k, k < 4 → nI s >>> (nI k &&& 31) &&& 1 = b2 (s.testBit k) := by decide +kernel
theorem pop4 : ∀ s, s < 16 → gpopN s 4 = gpop s := by decide +kernel
section QM
variable {d : Nat} {h : qH} {K : qK} {S : gS}
theorem m_within {v : Int32} {lo hi : Nat} (hlo : lo < 2 ^ 31) (hhi : hi < 2 ^ 31) (ht : ∀ n, lo ≤ n → n ≤ hi → v = nI n → K (some (.int 1)) h) (hf : (∀ n, lo ≤ n → n ≤ hi → v ≠ nI n) → K (some (.int 0)) h) : qCall (d + 1) 73 [.int v, .int (nI lo), .int (nI hi)] h K := by
  refine call_wp (n := 20) (cut := []) _ (by decide) (Nat.lt_succ_self _) rfl rfl (Nat.le_of_ble_eq_true rfl) rfl ?_
  refine And.intro (fun c1 => ?_) (fun c1 => ?_)
  · refine ⟨Or.inl rfl, hf (fun n h1 h2 z => ?_)⟩
    rw [z] at c1
    exact nI_nlt h1 (by omega) c1
  · have hv : ¬ v < 0 := fun z => c1 (Int32.lt_of_lt_of_le z (nI_pos' hlo))
    obtain ⟨j, hj, rfl⟩ := nI_of hv
    rw [nI_ltI hj hlo] at c1
    refine And.intro (fun c2 => ?_) (fun c2 => ?_)
    · rw [nI_ltI hhi hj] at c2
      refine ⟨Or.inl rfl, hf (fun n h1 h2 z => ?_)⟩
      rw [nI_eq hj (by omega)] at z
      omega
    · rw [nI_ltI hhi hj] at c2
      exact ⟨Or.inr rfl, ht j (by omega) (by omega) rfl⟩
theorem m_isIn {s k : Nat} (hs : s < 512) (hk : k < 9) (ht : s.testBit k = true → K (some (.int 1)) h) (hf : s.testBit k = false → K (some (.int 0)) h) : qCall (d + 1) 74 [.int (nI s), .int (nI k)] h K := by
  refine call_wp (n := 20) (cut := []) _ (by decide) (Nat.lt_succ_self _) rfl rfl (Nat.le_of_ble_eq_true rfl) rfl ?_
  refine And.intro (fun c1 => ?_) (fun c1 => ?_)
  · exact ⟨Or.inr rfl, ht ((bit_in s hs k hk).mp c1)⟩
  · refine ⟨Or.inl rfl, hf ?_⟩
    cases hb : s.testBit k with
    | false => rfl
    | true => exact absurd ((bit_in s hs k hk).mpr hb) c1
theorem l_size {s : Nat} (hs : s < 16) (hk : K (some (.int (nI (gpop s)))) h) : ∀ m n, n + m = 4 → qAt (d, 75, some .int, q0, K) 4 [some (.int (nI s)), some (.int (nI (gpopN s n))), some (.int (nI n))] [] h := by
  intro m
  induction m with
  | zero =>
    intro n hn
    have hn : n = 4 := by omega
    subst hn
    refine at_wp [] 12 (Nat.le_of_ble_eq_true rfl) rfl ?_
    refine And.intro (fun _ => ?_) (fun c => absurd (by decide) c)
    rw [← pop4 s hs] at hk
    exact hk
  | succ m ih =>
    intro n hn
    have ihn := ih (n + 1) (by omega)
    rw [gpopN, ← nI_1] at ihn
    refine at_wp [4] 40 (Nat.le_of_ble_eq_true rfl) rfl ?_
    refine And.intro (fun c => absurd c (nI_ge (a := n) (b := 4) (by omega) (by decide))) (fun _ => ?_)
    show qAt _ 4 [some (.int (nI s)), some (.int (nI (gpopN s n) + (nI s >>> (nI n &&& 31) &&& 1))), some (.int (nI n + 1))] [] h
    rw [bit_val s hs n (by omega)]
    cases hb : s.testBit n
    · rw [hb] at ihn
      show qAt _ 4 [some (.int (nI s)), some (.int (nI (gpopN s n) + nI 0)), some (.int (nI n + 1))] [] h
      rw [nI_add]
      exact ihn
    · rw [hb] at ihn
      show qAt _ 4 [some (.int (nI s)), some (.int (nI (gpopN s n) + nI 1)), some (.int (nI n + 1))] [] h
      rw [nI_add]
      exact ihn
theorem m_size {s : Nat} (hs : s < 16) (hk : K (some (.int (nI (gpop s)))) h) : qCall (d + 1) 75 [.int (nI s)] h K := by
  refine call_wp (n := 4) (cut := []) _ (by decide) (Nat.lt_succ_self _) rfl rfl (Nat.le_of_ble_eq_true rfl) rfl ?_
  exact l_size hs hk 4 0 rfl
theorem m_isOne {p : Int32} (hM : RMc h S) (hB : GB S) (ht : ∀ n, n < S 0 0 → p = nI n → K (some (.int 1)) h) (hf : (∀ n, n < S 0 0 → p ≠ nI n) → K (some (.int 0)) h) : qCall (d + 2) 85 [.ref 15, .int p] h K := by
  have hn := hB.1
  refine call_wp (n := 20) (cut := []) _ (by decide) (Nat.lt_succ_self _) rfl rfl (Nat.le_of_ble_eq_true rfl) rfl ?_
  show qCall _ 73 [.int p, .int (nI 0), .int (h.1 15 1 - 1)] h _
  rw [hM.1]
  by_cases h0 : S 0 0 = 0
  · rw [h0]
    have hz : K (some (.int 0)) h := hf (fun n hn' => by omega)
    clear ht hf
    show qCall _ 73 [.int p, .int (nI 0), .int (nI 0 - 1)] h _
    refine call_wp (n := 20) (cut := []) _ (by decide) (Nat.lt_succ_self _) rfl rfl (Nat.le_of_ble_eq_true rfl) rfl ?_
    refine And.intro (fun c1 => ?_) (fun c1 => ?_)
    · exact ⟨Or.inl rfl, Or.inl rfl, hz⟩
    · refine And.intro (fun c2 => ?_) (fun c2 => ?_)
      · exact ⟨Or.inl rfl, Or.inl rfl, hz⟩
      · exfalso
        have c1 : ¬ p < 0 := c1
        obtain ⟨j, hj, rfl⟩ := nI_of c1
        have c2 : ¬ nI 0 - 1 < nI j := c2
        refine c2 ?_
        rw [Int32.lt_iff_toInt_lt, nI_toInt hj, show (nI 0 - 1).toInt = -1 by decide]
        omega
  · obtain ⟨n, hn1⟩ : ∃ n, S 0 0 = n + 1 := ⟨S 0 0 - 1, by omega⟩
    rw [hn1, nI_pred]
    refine m_within (by decide) (by omega) (fun j h1 h2 e => ?_) (fun hj => ?_)
    · exact ⟨Or.inr rfl, ht j (by omega) e⟩
    · exact ⟨Or.inl rfl, hf (fun j hj' => hj j (by omega) (by omega))⟩
theorem m_isSign {p : Int32} (hM : RMc h S) (hB : GB S) (ht : ∀ n, n < 4 → 0 < S 0 0 → p = nI n → K (some (.int 1)) h) (hf : (0 < S 0 0 → ∀ n, n < 4 → p ≠ nI n) → K (some (.int 0)) h) : qCall (d + 2) 86 [.ref 15, .int p] h K := by
  have hn := hB.1
  have e := hM.1
  refine call_wp (n := 30) (cut := []) _ (by decide) (Nat.lt_succ_self _) rfl rfl (Nat.le_of_ble_eq_true rfl) rfl ?_
  refine And.intro (fun c1 => ?_) (fun c1 => ?_)
  · refine ⟨Or.inl rfl, hf (fun h0 => ?_)⟩
    have c1 : h.1 15 1 ≤ nI 0 := c1
    rw [e, nI_leI (by omega) (by omega)] at c1
    omega
  · have c1 : ¬ h.1 15 1 ≤ nI 0 := c1
    rw [e, nI_leI (by omega) (by omega)] at c1
    refine m_within (lo := 0) (hi := 3) (by decide) (by decide) (fun j h1 h2 e => ?_) (fun hj => ?_)
    · refine And.intro (fun c => absurd c (by decide)) (fun _ => ?_)
      exact ⟨Or.inr rfl, ht j (by omega) (by omega) e⟩
    · refine And.intro (fun _ => ?_) (fun c => absurd rfl c)
      exact ⟨Or.inl rfl, hf (fun _ j hj' => hj j (by omega) (by omega))⟩
theorem m_arr {r N : Nat} {p : Nat} (h1 : p < N) (h2 : N < 2 ^ 31) : (nI p).toNatClampNeg = p := nI_clamp (by omega)
theorem m_isKing {p : Nat} (hM : RMc h S) (hB : GB S) (hp : p < S 0 0) (ht : gking S p = true → K (some (.int 1)) h) (hf : gking S p = false → K (some (.int 0)) h) : qCall (d + 1) 87 [.ref 15, .int (nI p)] h K := by
  have hn := hB.1
  have hb := (hB.2.1 p hp).1
  have ek := (hM.2.1 p hp).1
  have ec : (nI p).toNatClampNeg = p := nI_clamp (by omega)
  have e1 : ∀ n, n < 5 → (nI n = (1 : Int32) ↔ n = 1) := by decide +kernel
  have e4 : ∀ n, n < 5 → (nI n = (4 : Int32) ↔ n = 4) := by decide +kernel
  refine call_wp (n := 30) (cut := []) _ (by decide) (Nat.lt_succ_self _) rfl rfl (Nat.le_of_ble_eq_true rfl) rfl ?_
  refine And.intro (vp_in_nI (by omega) (by decide)) ?_
  refine And.intro (fun c1 => ?_) (fun c1 => ?_)
  · have c1 : h.1 16 (nI p).toNatClampNeg = 1 := c1
    rw [ec, ek] at c1
    exact ⟨Or.inr rfl, ht (by simp [gking, (e1 _ hb).mp c1])⟩
  · have c1 : ¬ h.1 16 (nI p).toNatClampNeg = 1 := c1
    rw [ec, ek] at c1
    have c1 : ¬ S 1 p = 1 := fun z => c1 ((e1 _ hb).mpr z)
    refine And.intro (vp_in_nI (by omega) (by decide)) ?_
    refine And.intro (fun c2 => ?_) (fun c2 => ?_)
    · have c2 : h.1 16 (nI p).toNatClampNeg = 4 := c2
      rw [ec, ek] at c2
      exact ⟨Or.inr rfl, ht (by simp [gking, (e4 _ hb).mp c2])⟩
    · have c2 : ¬ h.1 16 (nI p).toNatClampNeg = 4 := c2
      rw [ec, ek] at c2
      have c2 : ¬ S 1 p = 4 := fun z => c2 ((e4 _ hb).mpr z)
      exact ⟨Or.inl rfl, hf (by simp [gking, c1, c2])⟩
theorem l_tellAll {s : Nat} (hT : ∀ k, k < 4 → h.1 20 k = nI (S 3 k)) (hs : s < 16) (hk : K (some (.int (nI (gtog S s)))) h) : ∀ m n, n + m = 4 → qAt (d + 1, 88, some .int, q0, K) 4 [some (.ref 15), some (.int (nI s)), some (.int (nI (gtogN S s n))), some (.int (nI n))] [] h := by
  intro m
  induction m with
  | zero =>
    intro n hn
    have hn : n = 4 := by omega
    subst hn
    refine at_wp [] 12 (Nat.le_of_ble_eq_true rfl) rfl ?_
    refine And.intro (fun _ => ?_) (fun c => absurd (by decide) c)
    rw [← gtogN_4] at hk
    exact hk
  | succ m ih =>
    intro n hn
    have ihn := ih (n + 1) (by omega)
    rw [gtogN, ← nI_1] at ihn
    refine at_wp [4] 40 (Nat.le_of_ble_eq_true rfl) rfl ?_
    refine And.intro (fun c => absurd c (nI_ge (a := n) (b := 4) (by omega) (by decide))) (fun _ => ?_)
    refine m_isIn (by omega) (by omega) (fun b1 => ?_) (fun b1 => ?_)
    · refine And.intro (fun c => absurd c (by decide)) (fun _ => ?_)
      refine And.intro (vp_in_nI (by omega) (by decide)) ?_
      rw [if_pos b1, ← nI_add, ← hT n (by omega)] at ihn
      have ec : (nI n).toNatClampNeg = n := nI_clamp (by omega)
      show qAt _ 4 [some (.ref 15), some (.int (nI s)), some (.int (nI (gtogN S s n) + h.1 20 (nI n).toNatClampNeg)), some (.int (nI n + 1))] [] h
      rw [ec]
      exact ihn
    · refine And.intro (fun _ => ?_) (fun c => absurd rfl c)
      rw [b1] at ihn
      show qAt _ 4 [some (.ref 15), some (.int (nI s)), some (.int (nI (gtogN S s n) + nI 0)), some (.int (nI n + 1))] [] h
      rw [nI_add]
      exact ihn
theorem m_tellAll {s : Nat} (hT : ∀ k, k < 4 → h.1 20 k = nI (S 3 k)) (hs : s < 16) (hk : K (some (.int (nI (gtog S s)))) h) : qCall (d + 2) 88 [.ref 15, .int (nI s)] h K := by
  refine call_wp (n := 4) (cut := []) _ (by decide) (Nat.lt_succ_self _) rfl rfl (Nat.le_of_ble_eq_true rfl) rfl ?_
  exact l_tellAll hT hs hk 4 0 rfl
theorem m_isEnough {p m : Nat} (hK : h.1 16 p = nI (S 1 p)) (hN : h.1 17 p = nI (S 2 p)) (hp4 : p < 4) (hk5 : S 1 p < 5) (hn10 : S 2 p < 10) (hm : m < 40) (ht : gen (S 1 p) (S 2 p) ≤ m → K (some (.int 1)) h) (hf : ¬ gen (S 1 p) (S 2 p) ≤ m → K (some (.int 0)) h) : qCall (d + 1) 89 [.ref 15, .int (nI p), .int (nI m)] h K := by
  have ec : (nI p).toNatClampNeg = p := nI_clamp (by omega)
  have e2 : ∀ n, n < 5 → (nI n = (2 : Int32) ↔ n = 2) := by decide +kernel
  have e4 : ∀ n, n < 5 → (nI n = (4 : Int32) ↔ n = 4) := by decide +kernel
  have eh : ∀ n, n < 10 → (nI n + 1) / 2 = nI ((n + 1) / 2) := by decide +kernel
  refine call_wp (n := 50) (cut := []) _ (by decide) (Nat.lt_succ_self _) rfl rfl (Nat.le_of_ble_eq_true rfl) rfl ?_
  refine And.intro (vp_in_nI (by omega) (by decide)) ?_
  refine And.intro (vp_in_nI (by omega) (by decide)) ?_
  refine And.intro (fun c1 => ?_) (fun c1 => ?_)
  · have c1 : h.1 16 (nI p).toNatClampNeg = 2 := c1
    rw [ec, hK, e2 _ hk5] at c1
    refine And.intro (by decide) ?_
    have eg : (h.1 17 (nI p).toNatClampNeg + 1) / 2 = nI (gen (S 1 p) (S 2 p)) := by rw [ec, hN, eh _ hn10, c1]; rfl
    have lg : gen (S 1 p) (S 2 p) < 12 := by rw [c1]; show (S 2 p + 1) / 2 < 12; omega
    refine And.intro (fun c2 => ?_) (fun c2 => ?_)
    · have c2 : nI m < (h.1 17 (nI p).toNatClampNeg + 1) / 2 := c2
      rw [eg, nI_ltI (by omega) (by omega)] at c2
      exact ⟨Or.inl rfl, hf (by omega)⟩
    · have c2 : ¬ nI m < (h.1 17 (nI p).toNatClampNeg + 1) / 2 := c2
      rw [eg, nI_ltI (by omega) (by omega)] at c2
      exact ⟨Or.inr rfl, ht (by omega)⟩
  · have c1 : ¬ h.1 16 (nI p).toNatClampNeg = 2 := c1
    rw [ec, hK, e2 _ hk5] at c1
    refine And.intro (vp_in_nI (by omega) (by decide)) ?_
    refine And.intro (fun c3 => ?_) (fun c3 => ?_)
    · have c3 : h.1 16 (nI p).toNatClampNeg = 4 := c3
      rw [ec, hK, e4 _ hk5] at c3
      have eg : h.1 17 (nI p).toNatClampNeg + nI 2 = nI (gen (S 1 p) (S 2 p)) := by rw [ec, hN, nI_add, c3]; rfl
      have lg : gen (S 1 p) (S 2 p) < 12 := by rw [c3]; show S 2 p + 2 < 12; omega
      refine And.intro (fun c2 => ?_) (fun c2 => ?_)
      · have c2 : nI m < h.1 17 (nI p).toNatClampNeg + nI 2 := c2
        rw [eg, nI_ltI (by omega) (by omega)] at c2
        exact ⟨Or.inl rfl, hf (by omega)⟩
      · have c2 : ¬ nI m < h.1 17 (nI p).toNatClampNeg + nI 2 := c2
        rw [eg, nI_ltI (by omega) (by omega)] at c2
        exact ⟨Or.inr rfl, ht (by omega)⟩
    · have c3 : ¬ h.1 16 (nI p).toNatClampNeg = 4 := c3
      rw [ec, hK, e4 _ hk5] at c3
      have e0 : gen (S 1 p) (S 2 p) = S 2 p := by
        unfold gen
        split
        · omega
        · omega
        · rfl
      have eg : h.1 17 (nI p).toNatClampNeg = nI (gen (S 1 p) (S 2 p)) := by rw [ec, hN, e0]
      have lg : gen (S 1 p) (S 2 p) < 12 := by omega
      refine And.intro (fun c2 => ?_) (fun c2 => ?_)
      · have c2 : nI m < h.1 17 (nI p).toNatClampNeg := c2
        rw [eg, nI_ltI (by omega) (by omega)] at c2
        exact ⟨Or.inl rfl, hf (by omega)⟩
      · have c2 : ¬ nI m < h.1 17 (nI p).toNatClampNeg := c2
        rw [eg, nI_ltI (by omega) (by omega)] at c2
        exact ⟨Or.inr rfl, ht (by omega)⟩
theorem m_enough {p s : Nat} (hM : RMc h S) (hB : GB S) (hp : p < S 0 0) (ht : ginf S p s = true → K (some (.int 1)) h) (hf : ginf S p s = false → K (some (.int 0)) h) : qCall (d + 1) 89 [.ref 15, .int (nI p), .int (nI (gtog S s))] h K := by
  have hn := hB.1
  exact m_isEnough (hM.2.1 p hp).1 (hM.2.1 p hp).2.1 (by omega) (hB.2.1 p hp).1 (hB.2.1 p hp).2.1 (gtog_lt hB s) (fun z => ht (decide_eq_true z)) (fun z => hf (decide_eq_false z))
theorem m_infers {p : Nat} (hM : RMc h S) (hB : GB S) (hp : p < S 0 0) (ht : ginf S p (S 4 p) = true → K (some (.int 1)) h) (hf : ginf S p (S 4 p) = false → K (some (.int 0)) h) : qCall (d + 3) 90 [.ref 15, .int (nI p)] h K := by
  have hn := hB.1
  have ec : (nI p).toNatClampNeg = p := nI_clamp (by omega)
  refine call_wp (n := 30) (cut := []) _ (by decide) (Nat.lt_succ_self _) rfl rfl (Nat.le_of_ble_eq_true rfl) rfl ?_
  refine And.intro (vp_in_nI (by omega) (by decide)) ?_
  show qCall _ 88 [.ref 15, .int (h.1 18 (nI p).toNatClampNeg)] h _
  rw [ec, (hM.2.1 p hp).2.2.1]
  refine m_tellAll hM.2.2.1 (hB.2.1 p hp).2.2 ?_
  exact m_enough hM hB hp (fun b => ⟨Or.inr rfl, ht b⟩) (fun b => ⟨Or.inl rfl, hf b⟩)
theorem m_canTell {f t s : Nat} (hM : RMc h S) (hB : GB S) (hf : f < S 0 0) (ht : t < S 0 0) (hs : s < 4) (k1 : gcan S f t s = true → K (some (.int 1)) h) (k0 : gcan S f t s = false → K (some (.int 0)) h) : qCall (d + 2) 96 [.ref 15, .int (nI f), .int (nI t), .int (nI s)] h K := by
  have hn := hB.1
  have hh := hB.2.2.2.1
  have hkf := (hB.2.1 f hf).2.2
  have hkt := (hB.2.1 t ht).2.2
  have ecf : (nI f).toNatClampNeg = f := nI_clamp (by omega)
  have ect : (nI t).toNatClampNeg = t := nI_clamp (by omega)
  refine call_wp (n := 60) (cut := []) _ (by decide) (Nat.lt_succ_self _) rfl rfl (Nat.le_of_ble_eq_true rfl) rfl ?_
  refine And.intro (fun c1 => ?_) (fun c1 => ?_)
  · have c1 := (nI_eq (by omega) (by omega)).mp c1
    exact ⟨Or.inl rfl, k0 (by simp [gcan, c1])⟩
  · have c1 : ¬ f = t := fun z => c1 (by rw [z])
    show qCall _ 74 [.int (h.1 15 8), .int (nI f)] h _
    rw [hM.2.2.2.2.1]
    refine m_isIn (by omega) (by omega) (fun b3 => ?_) (fun b3 => ?_)
    · refine And.intro (fun c => absurd c (by decide)) (fun _ => ?_)
      exact ⟨Or.inl rfl, k0 (by simp [gcan, b3])⟩
    · refine And.intro (fun _ => ?_) (fun c => absurd rfl c)
      show qCall _ 74 [.int (h.1 15 8), .int (nI t)] h _
      rw [hM.2.2.2.2.1]
      refine m_isIn (by omega) (by omega) (fun b4 => ?_) (fun b4 => ?_)
      · refine And.intro (fun c => absurd c (by decide)) (fun _ => ?_)
        exact ⟨Or.inl rfl, k0 (by simp [gcan, b4])⟩
      · refine And.intro (fun _ => ?_) (fun c => absurd rfl c)
        refine And.intro (vp_in_nI (by omega) (by decide)) ?_
        show qCall _ 74 [.int (h.1 18 (nI f).toNatClampNeg), .int (nI s)] h _
        rw [ecf, (hM.2.1 f hf).2.2.1]
        refine m_isIn (by omega) (by omega) (fun b1 => ?_) (fun b1 => ?_)
        · refine And.intro (fun c => absurd c (by decide)) (fun _ => ?_)
          refine And.intro (vp_in_nI (by omega) (by decide)) ?_
          show qCall _ 74 [.int (h.1 18 (nI t).toNatClampNeg), .int (nI s)] h _
          rw [ect, (hM.2.1 t ht).2.2.1]
          refine m_isIn (by omega) (by omega) (fun b2 => ?_) (fun b2 => ?_)
          · refine And.intro (fun c => absurd c (by decide)) (fun _ => ?_)
            exact ⟨Or.inl rfl, k0 (by simp [gcan, b2])⟩
          · refine And.intro (fun _ => ?_) (fun c => absurd rfl c)
            exact ⟨Or.inr rfl, k1 (by simp [gcan, c1, b1, b2, b3, b4])⟩
        · refine And.intro (fun _ => ?_) (fun c => absurd rfl c)
          exact ⟨Or.inl rfl, k0 (by simp [gcan, b1])⟩
end QM
end
section
/-! ## the reference: reads -/
def RMk (h : qH) (S : gS) : Prop := h.1 15 24 = nI (S 15 2) ∧ h.1 15 25 = nI (S 15 0) ∧ h.1 15 26 = nI (S 15 1) ∧ h.1 15 27 = nI (S 15 3) ∧ h.1 15 28 = nI (S 15 4) ∧ (∀ p, p < S 0 0 → h.1 26 p = nI (S 14 p) ∧ h.1 27 p = nI (S 16 p)) ∧ ∀ i, i < S 15 4 → h.1 28 i = nI (S 17 i) ∧ h.1 29 i = nI (S 18 i) ∧ h.1 30 i = nI (S 19 i)
def RM (h : qH) (S : gS) : Prop := RMc h S ∧ h.1 15 15 = nI (S 12 0) ∧ h.1 15 16 = nI (S 10 0) ∧ (∀ i, i < S 10 0 → h.1 24 i = nI (S 11 i)) ∧ h.1 15 0 = nI (S 12 1) ∧ (∃ kf kc, h.1 15 22 = nI kf ∧ kf < 2 ∧ h.1 15 23 = nI kc ∧ kc ≤ S 12 1 ∧ (S 13 0 = 1 ↔ kf = 1 ∧ kc = S 12 1)) ∧ (S 13 0 = 1 → RMk h S)
def lM : List Nat := [15, 16, 17, 18, 19, 20, 21, 22, 23, 24, 25, 26, 27, 28, 29, 30]
theorem k_eq : ∀ n, n < 5 → ((nI n = (2 : Int32) ↔ n = 2) ∧ (nI n = (3 : Int32) ↔ n = 3)) := by decide +kernel
section QM2
variable {d : Nat} {h : qH} {K : qK} {S : gS}
theorem l_h3 {f t s : Nat} {bl nw : Bool} {u : Option Value} (hM : RMc h S) (hB : GB S) (hf : f < S 0 0) (ht : t < S 0 0) (k1 : (bl || (nw && !gking S t && S 1 f != 2)) = true → K (some (.int 1)) h) (k0 : (bl || (nw && !gking S t && S 1 f != 2)) = false → K (some (.int 0)) h) : qAt (d + 1, 97, some .boolean, q0, K) 43 [some (.ref 15), some (.int (nI f)), some (.int (nI t)), u, some (.int (b2 bl)), some (.int (b2 nw))] [] h := by
  have hn := hB.1
  have ecf : (nI f).toNatClampNeg = f := nI_clamp (by omega)
  have hk5 := (hB.2.1 f hf).1
  cases bl
  · cases nw
    · refine at_wp [] 40 (Nat.le_of_ble_eq_true rfl) rfl ?_
      refine And.intro (fun _ => ?_) (fun c => absurd rfl c)
      refine And.intro (fun _ => ?_) (fun c => absurd rfl c)
      exact ⟨Or.inl rfl, k0 rfl⟩
    · refine at_wp [] 40 (Nat.le_of_ble_eq_true rfl) rfl ?_
      refine And.intro (fun _ => ?_) (fun c => absurd rfl c)
      refine And.intro (fun c => absurd c (by decide)) (fun _ => ?_)
      refine m_isKing hM hB ht (fun b1 => ?_) (fun b1 => ?_)
      · refine And.intro (fun c => absurd c (by decide)) (fun _ => ?_)
        exact ⟨Or.inl rfl, k0 (by simp [b1])⟩
      · refine And.intro (fun _ => ?_) (fun c => absurd rfl c)
        refine And.intro (vp_in_nI (by omega) (by decide)) ?_
        refine And.intro (fun c1 => ?_) (fun c1 => ?_)
        · have c1 : h.1 16 (nI f).toNatClampNeg = 2 := c1
          rw [ecf, (hM.2.1 f hf).1, (k_eq _ hk5).1] at c1
          exact ⟨Or.inl rfl, k0 (by simp [c1])⟩
        · have c1 : ¬ h.1 16 (nI f).toNatClampNeg = 2 := c1
          rw [ecf, (hM.2.1 f hf).1, (k_eq _ hk5).1] at c1
          exact ⟨Or.inr rfl, k1 (by simp [b1, c1])⟩
  · refine at_wp [] 40 (Nat.le_of_ble_eq_true rfl) rfl ?_
    refine And.intro (fun c => absurd c (by decide)) (fun _ => ?_)
    exact ⟨Or.inr rfl, k1 rfl⟩
theorem l_h2 {f t s : Nat} {bl : Bool} {u : Option Value} (hM : RMc h S) (hB : GB S) (hf : f < S 0 0) (ht : t < S 0 0) (hs : s < 4) (k1 : (bl || (gnew S t s && !gking S t && S 1 f != 2)) = true → K (some (.int 1)) h) (k0 : (bl || (gnew S t s && !gking S t && S 1 f != 2)) = false → K (some (.int 0)) h) : qAt (d + 3, 97, some .boolean, q0, K) 21 [some (.ref 15), some (.int (nI f)), some (.int (nI t)), some (.int (nI s)), some (.int (b2 bl)), u] [] h := by
  have hn := hB.1
  have hkt := (hB.2.1 t ht).2.2
  have ect : (nI t).toNatClampNeg = t := nI_clamp (by omega)
  refine at_wp [43] 60 (Nat.le_of_ble_eq_true rfl) rfl ?_
  refine m_infers hM hB ht (fun b1 => ?_) (fun b1 => ?_)
  · refine And.intro (fun c => absurd c (by decide)) (fun _ => ?_)
    have e : gnew S t s = false := by simp [gnew, b1]
    exact l_h3 (nw := false) (s := s) hM hB hf ht (fun z => k1 (by rw [e]; exact z)) (fun z => k0 (by rw [e]; exact z))
  · refine And.intro (fun _ => ?_) (fun c => absurd rfl c)
    refine And.intro (vp_in_nI (by omega) (by decide)) ?_
    show qCall _ 88 [.ref 15, .int (h.1 18 (nI t).toNatClampNeg ||| (1 <<< (nI s &&& 31)))] h _
    rw [ect, (hM.2.1 t ht).2.2.1, bit_or _ hkt s hs]
    refine m_tellAll hM.2.2.1 (bit_or_lt _ hkt s hs) ?_
    refine m_enough hM hB ht (fun b2 => ?_) (fun b2 => ?_)
    · refine And.intro (fun c => absurd c (by decide)) (fun _ => ?_)
      have e : gnew S t s = true := by simp [gnew, b1, b2]
      exact l_h3 (nw := true) (s := s) hM hB hf ht (fun z => k1 (by rw [e]; exact z)) (fun z => k0 (by rw [e]; exact z))
    · refine And.intro (fun _ => ?_) (fun c => absurd rfl c)
      have e : gnew S t s = false := by simp [gnew, b2]
      exact l_h3 (nw := false) (s := s) hM hB hf ht (fun z => k1 (by rw [e]; exact z)) (fun z => k0 (by rw [e]; exact z))
theorem ghang_eq (S : gS) (f t s : Nat) : ghang S f t s = (((S 5 2).testBit s && S 1 f != 2 && S 1 f != 3) || (gnew S t s && !gking S t && S 1 f != 2)) := by
  unfold ghang
  cases (S 5 2).testBit s <;> cases (S 1 f != 2) <;> cases (S 1 f != 3) <;> cases gnew S t s <;> cases gking S t <;> rfl
theorem m_isHanging {f t s : Nat} (hM : RMc h S) (hB : GB S) (hf : f < S 0 0) (ht : t < S 0 0) (hs : s < 4) (k1 : ghang S f t s = true → K (some (.int 1)) h) (k0 : ghang S f t s = false → K (some (.int 0)) h) : qCall (d + 4) 97 [.ref 15, .int (nI f), .int (nI t), .int (nI s)] h K := by
  have hn := hB.1
  have ecf : (nI f).toNatClampNeg = f := nI_clamp (by omega)
  have hk5 := (hB.2.1 f hf).1
  have h52 := hB.2.2.2.2.2
  rw [ghang_eq] at k1 k0
  refine call_wp (n := 40) (cut := [21]) _ (by decide) (Nat.lt_succ_self _) rfl rfl (Nat.le_of_ble_eq_true rfl) rfl ?_
  show qCall _ 74 [.int (h.1 15 7), .int (nI s)] h _
  rw [hM.2.2.2.1]
  refine m_isIn (by omega) (by omega) (fun b1 => ?_) (fun b1 => ?_)
  · refine And.intro (fun c => absurd c (by decide)) (fun _ => ?_)
    refine And.intro (vp_in_nI (by omega) (by decide)) ?_
    refine And.intro (fun c1 => ?_) (fun c1 => ?_)
    · have c1 : h.1 16 (nI f).toNatClampNeg = 2 := c1
      rw [ecf, (hM.2.1 f hf).1, (k_eq _ hk5).1] at c1
      rw [b1, c1] at k1 k0
      exact l_h2 (bl := false) hM hB hf ht hs (fun z => k1 (by rw [c1] at z; exact z)) (fun z => k0 (by rw [c1] at z; exact z))
    · have c1 : ¬ h.1 16 (nI f).toNatClampNeg = 2 := c1
      rw [ecf, (hM.2.1 f hf).1, (k_eq _ hk5).1] at c1
      refine And.intro (vp_in_nI (by omega) (by decide)) ?_
      refine And.intro (fun c2 => ?_) (fun c2 => ?_)
      · have c2 : h.1 16 (nI f).toNatClampNeg = 3 := c2
        rw [ecf, (hM.2.1 f hf).1, (k_eq _ hk5).2] at c2
        rw [b1, c2] at k1 k0
        exact l_h2 (bl := false) hM hB hf ht hs (fun z => k1 (by rw [c2] at z; exact z)) (fun z => k0 (by rw [c2] at z; exact z))
      · have c2 : ¬ h.1 16 (nI f).toNatClampNeg = 3 := c2
        rw [ecf, (hM.2.1 f hf).1, (k_eq _ hk5).2] at c2
        have e : ((S 5 2).testBit s && S 1 f != 2 && S 1 f != 3) = true := by simp [b1, c1, c2]
        rw [e] at k1 k0
        exact l_h2 (bl := true) hM hB hf ht hs (fun z => k1 z) (fun z => k0 z)
  · refine And.intro (fun _ => ?_) (fun c => absurd rfl c)
    rw [b1] at k1 k0
    exact l_h2 (bl := false) hM hB hf ht hs (fun z => k1 z) (fun z => k0 z)
theorem m_as {p k : Int32} (hM : RM h S) (hG : RG S) (hk : K (some (.int (aAs S p k))) h) : qCall (d + 3) 93 [.ref 15, .int p, .int k] h K := by
  have hB := hG.1
  have hn := hB.1
  have e0 : ∀ n, n < 5 → (nI n = (0 : Int32) ↔ n = 0) := by decide +kernel
  have e1 : ∀ n, n < 5 → (nI n = (1 : Int32) ↔ n = 1) := by decide +kernel
  have e4 : ∀ n, n < 5 → (nI n = (4 : Int32) ↔ n = 4) := by decide +kernel
  unfold aAs at hk
  refine call_wp (n := 60) (cut := []) _ (by decide) (Nat.lt_succ_self _) rfl rfl (Nat.le_of_ble_eq_true rfl) rfl ?_
  refine m_isOne hM.1 hB (fun n hn ep => ?_) (fun hp => ?_)
  · subst ep
    rw [ip_some hB hn] at hk
    have hk5 := (hB.2.1 n hn).1
    have ec : (nI n).toNatClampNeg = n := nI_clamp (by omega)
    have em := (hM.1.2.1 n hn).1
    refine And.intro (fun c => absurd c (by decide)) (fun _ => ?_)
    refine m_within (lo := 0) (hi := 4) (by decide) (by decide) (fun q h1 h2 e => ?_) (fun hj => ?_)
    · subst e
      rw [ix_some (n := q) (by omega) (by decide)] at hk
      dsimp only at hk
      refine And.intro (fun c => absurd c (by decide)) (fun _ => ?_)
      refine And.intro (vp_in_nI (by omega) (by decide)) ?_
      refine And.intro (fun c1 => ?_) (fun c1 => ?_)
      · have c1 := (e0 q (by omega)).mp c1
        rw [if_pos (by simp [gisA, c1])] at hk
        exact hk
      · have c1 : ¬ q = 0 := fun z => c1 ((e0 q (by omega)).mpr z)
        refine And.intro (fun c2 => ?_) (fun c2 => ?_)
        · have c2 : h.1 16 (nI n).toNatClampNeg = nI q := c2
          rw [ec, em, nI_eq (by omega) (by omega)] at c2
          rw [if_pos (by simp [gisA, c2])] at hk
          exact hk
        · have c2 : ¬ h.1 16 (nI n).toNatClampNeg = nI q := c2
          rw [ec, em, nI_eq (by omega) (by omega)] at c2
          refine And.intro (fun c3 => ?_) (fun c3 => ?_)
          · have c3 := (e1 q (by omega)).mp c3
            refine And.intro (fun c5 => ?_) (fun c5 => ?_)
            · have c5 : h.1 16 (nI n).toNatClampNeg = 4 := c5
              rw [ec, em, e4 _ hk5] at c5
              rw [if_pos (by simp [gisA, c3, c5])] at hk
              exact hk
            · have c5 : ¬ h.1 16 (nI n).toNatClampNeg = 4 := c5
              rw [ec, em, e4 _ hk5] at c5
              have c2' : ¬ q = S 1 n := fun z => c2 z.symm
              rw [if_neg (by simp [gisA, c1, c2', c5])] at hk
              exact hk
          · have c3 : ¬ q = 1 := fun z => c3 ((e1 q (by omega)).mpr z)
            have c2' : ¬ q = S 1 n := fun z => c2 z.symm
            rw [if_neg (by simp [gisA, c1, c2', c3])] at hk
            exact hk
    · rw [show ix k 5 = none from ix_none (by decide) (fun j hj' => hj j (by omega) (by omega))] at hk
      refine And.intro (fun _ => ?_) (fun c => absurd rfl c)
      exact hk
  · rw [ip_none hB hp] at hk
    refine And.intro (fun _ => ?_) (fun c => absurd rfl c)
    exact hk
theorem m_sign {k : Int32} (hM : RM h S) (hG : RG S) (hk : K (some (.int (aSign S k))) h) : qCall (d + 3) 94 [.ref 15, .int k] h K := by
  have hB := hG.1
  unfold aSign at hk
  refine call_wp (n := 40) (cut := []) _ (by decide) (Nat.lt_succ_self _) rfl rfl (Nat.le_of_ble_eq_true rfl) rfl ?_
  refine m_isSign hM.1 hB (fun n hn h0 ep => ?_) (fun hp => ?_)
  · subst ep
    rw [isg_some h0 hn] at hk
    have ec : (nI n).toNatClampNeg = n := nI_clamp (by omega)
    refine And.intro (fun c => absurd c (by decide)) (fun _ => ?_)
    refine And.intro (vp_in_nI (by omega) (by decide)) ?_
    refine kI hk ?_
    show _ = h.1 20 (nI n).toNatClampNeg
    rw [ec, hM.1.2.2.1 n hn]
  · rw [isg_none hp] at hk
    refine And.intro (fun _ => ?_) (fun c => absurd rfl c)
    exact hk
theorem l_safe {f t : Nat} (hM : RMc h S) (hB : GB S) (hf : f < S 0 0) (ht : t < S 0 0) (hk : K (some (.int (nI (gsafeN S f t 4)))) h) : ∀ m n, n + m = 4 → qAt (d + 4, 106, some .int, q0, K) 4 [some (.ref 15), some (.int (nI f)), some (.int (nI t)), some (.int (nI (gsafeN S f t n))), some (.int (nI n))] [] h := by
  intro m
  induction m with
  | zero =>
    intro n hn
    have hn : n = 4 := by omega
    subst hn
    refine at_wp [] 10 (Nat.le_of_ble_eq_true rfl) rfl ?_
    refine And.intro (fun _ => ?_) (fun c => absurd (by decide) c)
    exact hk
  | succ m ih =>
    intro n hn
    have hlt := gsafeN_lt S f t n (by omega)
    have ihn := ih (n + 1) (by omega)
    rw [← nI_1] at ihn
    have z0 : nI (gsafeN S f t n) ||| nI 0 = nI (gsafeN S f t n) := (by decide +kernel : ∀ x, x < 16 → nI x ||| nI 0 = nI x) _ hlt
    refine at_wp [4] 60 (Nat.le_of_ble_eq_true rfl) rfl ?_
    refine And.intro (fun c => absurd c (nI_ge (a := n) (b := 4) (by omega) (by decide))) (fun _ => ?_)
    refine m_canTell hM hB hf ht (by omega) (fun b1 => ?_) (fun b1 => ?_)
    · refine And.intro (fun c => absurd c (by decide)) (fun _ => ?_)
      refine m_isHanging hM hB hf ht (by omega) (fun b2 => ?_) (fun b2 => ?_)
      · refine And.intro (fun c => absurd c (by decide)) (fun _ => ?_)
        show qAt _ 4 [some (.ref 15), some (.int (nI f)), some (.int (nI t)), some (.int (nI (gsafeN S f t n) ||| nI 0)), some (.int (nI n + 1))] [] h
        rw [z0]
        rw [gsafeN, b1, b2] at ihn
        exact ihn
      · refine And.intro (fun _ => ?_) (fun c => absurd rfl c)
        show qAt _ 4 [some (.ref 15), some (.int (nI f)), some (.int (nI t)), some (.int (nI (gsafeN S f t n) ||| (1 <<< (nI n &&& 31)))), some (.int (nI n + 1))] [] h
        rw [bit_or _ hlt n (by omega)]
        rw [gsafeN, b1, b2] at ihn
        exact ihn
    · refine And.intro (fun _ => ?_) (fun c => absurd rfl c)
      show qAt _ 4 [some (.ref 15), some (.int (nI f)), some (.int (nI t)), some (.int (nI (gsafeN S f t n) ||| nI 0)), some (.int (nI n + 1))] [] h
      rw [z0]
      rw [gsafeN, b1] at ihn
      exact ihn
theorem m_safeNow {f t : Nat} (hM : RMc h S) (hB : GB S) (hf : f < S 0 0) (ht : t < S 0 0) (hk : K (some (.int (nI (gsafeN S f t 4)))) h) : qCall (d + 5) 106 [.ref 15, .int (nI f), .int (nI t)] h K := by
  refine call_wp (n := 4) (cut := []) _ (by decide) (Nat.lt_succ_self _) rfl rfl (Nat.le_of_ble_eq_true rfl) rfl ?_
  exact l_safe hM hB hf ht hk 4 0 rfl
theorem m_isAnyHanged {f t : Nat} (hM : RMc h S) (hB : GB S) (hf : f < S 0 0) (ht : t < S 0 0) (k1 : ((S 5 0).testBit f || (S 5 0).testBit t) = true → K (some (.int 1)) h) (k0 : ((S 5 0).testBit f || (S 5 0).testBit t) = false → K (some (.int 0)) h) : qCall (d + 2) 107 [.ref 15, .int (nI f), .int (nI t)] h K := by
  have hn := hB.1
  have hh := hB.2.2.2.1
  refine call_wp (n := 30) (cut := []) _ (by decide) (Nat.lt_succ_self _) rfl rfl (Nat.le_of_ble_eq_true rfl) rfl ?_
  show qCall _ 74 [.int (h.1 15 8), .int (nI f)] h _
  rw [hM.2.2.2.2.1]
  refine m_isIn (by omega) (by omega) (fun b1 => ?_) (fun b1 => ?_)
  · refine And.intro (fun c => absurd c (by decide)) (fun _ => ?_)
    exact ⟨Or.inr rfl, k1 (by simp [b1])⟩
  · refine And.intro (fun _ => ?_) (fun c => absurd rfl c)
    show qCall _ 74 [.int (h.1 15 8), .int (nI t)] h _
    rw [hM.2.2.2.2.1]
    refine m_isIn (by omega) (by omega) (fun b2 => ?_) (fun b2 => ?_)
    · refine And.intro (fun c => absurd c (by decide)) (fun _ => ?_)
      exact ⟨Or.inr rfl, k1 (by simp [b2])⟩
    · refine And.intro (fun _ => ?_) (fun c => absurd rfl c)
      exact ⟨Or.inl rfl, k0 (by simp [b1, b2])⟩
theorem m_safe {f t : Int32} (hM : RM h S) (hG : RG S) (hk : K (some (.int (aSafe S f t))) h) : qCall (d + 6) 108 [.ref 15, .int f, .int t] h K := by
  have hB := hG.1
  have hn0 := hB.1
  unfold aSafe at hk
  refine call_wp (n := 40) (cut := []) _ (by decide) (Nat.lt_succ_self _) rfl rfl (Nat.le_of_ble_eq_true rfl) rfl ?_
  refine m_isOne hM.1 hB (fun p hp ep => ?_) (fun hp => ?_)
  · subst ep
    refine And.intro (fun c => absurd c (by decide)) (fun _ => ?_)
    refine m_isOne hM.1 hB (fun q hq eq => ?_) (fun hq => ?_)
    · subst eq
      refine And.intro (fun c => absurd c (by decide)) (fun _ => ?_)
      refine And.intro (fun c1 => ?_) (fun c1 => ?_)
      · have c1 := (nI_eq (by omega) (by omega)).mp c1
        rw [iPair_none hB (fun p' q' hp' hq' hne e1 e2 => by
          rw [nI_eq (by omega) (by omega)] at e1 e2
          omega)] at hk
        exact hk
      · have c1 : ¬ p = q := fun z => c1 (by rw [z])
        rw [iPair_some hB hp hq c1] at hk
        dsimp only at hk
        refine m_isAnyHanged hM.1 hB hp hq (fun b1 => ?_) (fun b1 => ?_)
        · refine And.intro (fun c => absurd c (by decide)) (fun _ => ?_)
          rw [if_pos b1] at hk
          exact hk
        · refine And.intro (fun _ => ?_) (fun c => absurd rfl c)
          rw [if_neg (by rw [b1]; decide)] at hk
          exact m_safeNow hM.1 hB hp hq hk
    · refine And.intro (fun _ => ?_) (fun c => absurd rfl c)
      rw [iPair_none hB (fun p' q' hp' hq' hne e1 e2 => hq q' hq' e2)] at hk
      exact hk
  · refine And.intro (fun _ => ?_) (fun c => absurd rfl c)
    rw [iPair_none hB (fun p' q' hp' hq' hne e1 e2 => hp p' hp' e1)] at hk
    exact hk
end QM2
end
section
/-! ## the reference: what is asked, amounts one by one -/
theorem qI_qI (h : qH) (r k : Nat) (a b : Int32) : qI (qI h r k a) r k b = qI h r k b := by
  unfold qI
  refine Prod.ext ?_ rfl
  funext x y
  show (if x = r ∧ y = k then b else if x = r ∧ y = k then a else h.1 x y) = if x = r ∧ y = k then b else h.1 x y
  by_cases e : x = r ∧ y = k
  · rw [if_pos e, if_pos e]
  · rw [if_neg e, if_neg e, if_neg e]
theorem qI_self (h : qH) (r k : Nat) : qI h r k (h.1 r k) = h := by
  unfold qI
  refine Prod.ext ?_ rfl
  funext x y
  show (if x = r ∧ y = k then h.1 r k else h.1 x y) = h.1 x y
  by_cases e : x = r ∧ y = k
  · rw [if_pos e, e.1, e.2]
  · rw [if_neg e]
def gallN (S : gS) : Nat → Bool
  | 0 => true
  | n + 1 => gallN S n && (ginf S (S 7 n) (S 8 n) == (S 9 n == 1))
def gallB (S : gS) (s : Nat) : Nat → Nat
  | 0 => 0
  | v + 1 => gallB S s v ||| (if gallN (sS S 3 s (v + 1)) (S 5 4) then 1 <<< v else 0)
theorem bits_or : ∀ v, v < 9 → ∀ x, x < 2 ^ v → nI x ||| ((1 : Int32) <<< (nI v &&& 31)) = nI (x ||| 1 <<< v) := by decide +kernel
theorem bits_or0 : ∀ x, x < 512 → nI x ||| nI 0 = nI x := by decide +kernel
theorem gallB_lt (S : gS) (s : Nat) : ∀ v, gallB S s v < 2 ^ v
  | 0 => by unfold gallB; decide
  | v + 1 => by
    have := gallB_lt S s v
    unfold gallB
    refine Nat.or_lt_two_pow (Nat.lt_of_lt_of_le this (Nat.pow_le_pow_right (by decide) (by omega))) ?_
    split
    · rw [Nat.one_shiftLeft]
      exact Nat.pow_lt_pow_right (by decide) (by omega)
    · exact Nat.two_pow_pos _
theorem gamtF_bit (E T : Nat) (b : Bool) : ∀ n v, (gamtF E T b n).testBit v = (decide (v < n) && decide (E ≤ T + (if b then v + 1 else 0)))
  | 0, v => by simp [gamtF]
  | n + 1, v => by
    have ih := gamtF_bit E T b n v
    have hlt := gamtF_lt E T b n
    unfold gamtF
    by_cases hc : E ≤ T + (if b then n + 1 else 0)
    · have e2 : gamtF E T b n + 2 ^ n = 2 ^ n ||| gamtF E T b n := by
        have := Nat.two_pow_add_eq_or_of_lt hlt 1
        rw [Nat.mul_one] at this
        rw [Nat.add_comm]
        exact this
      rw [if_pos hc, e2, Nat.testBit_or, ih, Nat.testBit_two_pow]
      by_cases hv : n = v
      · subst hv
        simp [hc]
      · have : (v < n + 1) = (v < n) := by apply propext; omega
        simp [hv, this]
    · rw [if_neg hc, Nat.add_zero, ih]
      by_cases hv : v = n
      · subst hv
        simp [hc]
      · have : (v < n + 1) = (v < n) := by apply propext; omega
        simp [this]
theorem gclr_bit : ∀ x, x < 16 → ∀ s, s < 4 → ∀ k, k < 4 → (gclr x s).testBit k = (k != s && x.testBit k) := by decide +kernel
theorem gtog_set {S : gS} {s v sg : Nat} (hs : s < 4) (hsg : sg < 16) : gtog (sS S 3 s v) sg = gtog S (gclr sg s) + (if sg.testBit s then v else 0) := by
  unfold gtog
  rw [gclr_bit sg hsg s hs 0 (by decide), gclr_bit sg hsg s hs 1 (by decide), gclr_bit sg hsg s hs 2 (by decide), gclr_bit sg hsg s hs 3 (by decide)]
  rcases (show s = 0 ∨ s = 1 ∨ s = 2 ∨ s = 3 by omega) with rfl | rfl | rfl | rfl
  all_goals
    simp only [sS]
    cases sg.testBit 0 <;> cases sg.testBit 1 <;> cases sg.testBit 2 <;> cases sg.testBit 3 <;> simp <;> omega
theorem ginf_set {S : gS} {s v p sg : Nat} (hs : s < 4) (hsg : sg < 16) : ginf (sS S 3 s v) p sg = decide (gen (S 1 p) (S 2 p) ≤ gtog S (gclr sg s) + (if sg.testBit s then v else 0)) := by
  unfold ginf
  rw [gtog_set hs hsg, sS_ne (by decide), sS_ne (by decide)]
theorem gamt_bit {S : gS} {s v p sg : Nat} (hs : s < 4) (hsg : sg < 16) (hv : v < 9) : (gamt S p sg s).testBit v = ginf (sS S 3 s (v + 1)) p sg := by
  unfold gamt
  rw [gamtF_bit, ginf_set hs hsg, decide_eq_true hv, Bool.true_and]
theorem gposN_bit {S : gS} {s v : Nat} (hA : GA S) (hs : s < 4) (hv : v < 9) : ∀ n, n ≤ S 5 4 → (gposN S s n).testBit v = gallN (sS S 3 s (v + 1)) n
  | 0, _ => (by decide : ∀ v, v < 9 → (511 : Nat).testBit v = true) v hv
  | n + 1, hn => by
    obtain ⟨a1, a2, a3⟩ := hA.2 n (by omega)
    have ih := gposN_bit hA hs hv n (by omega)
    have h511 : (511 : Nat).testBit v = true := (by decide : ∀ v, v < 9 → (511 : Nat).testBit v = true) v hv
    unfold gposN gallN
    rw [Nat.testBit_and, ih, show sS S 3 s (v + 1) 7 = S 7 from sS_ne (by decide), show sS S 3 s (v + 1) 8 = S 8 from sS_ne (by decide), show sS S 3 s (v + 1) 9 = S 9 from sS_ne (by decide)]
    congr 1
    by_cases h9 : S 9 n = 0
    · rw [if_pos h9, Nat.testBit_xor, h511, gamt_bit hs a2 hv, h9]
      cases ginf (sS S 3 s (v + 1)) (S 7 n) (S 8 n) <;> rfl
    · have h9 : S 9 n = 1 := by omega
      rw [if_neg (by omega), gamt_bit hs a2 hv, h9]
      cases ginf (sS S 3 s (v + 1)) (S 7 n) (S 8 n) <;> rfl
theorem gallB_bit {S : gS} {s : Nat} : ∀ n v, (gallB S s n).testBit v = (decide (v < n) && gallN (sS S 3 s (v + 1)) (S 5 4))
  | 0, v => by simp [gallB]
  | n + 1, v => by
    have ih := gallB_bit (S := S) (s := s) n v
    unfold gallB
    rw [Nat.testBit_or, ih]
    by_cases hv : v = n
    · subst hv
      cases hb : gallN (sS S 3 s (v + 1)) (S 5 4)
      · simp
      · rw [if_pos rfl, Nat.one_shiftLeft, Nat.testBit_two_pow]
        simp
    · have e : decide (v < n + 1) = decide (v < n) := decide_eq_decide.mpr (by omega)
      rw [e]
      split
      · rw [Nat.one_shiftLeft, Nat.testBit_two_pow]
        have : ¬ n = v := fun z => hv z.symm
        simp [this]
      · simp
theorem gallB_pos {S : gS} {s : Nat} (hA : GA S) (hs : s < 4) : gallB S s 9 = gposN S s (S 5 4) := by
  apply Nat.eq_of_testBit_eq
  intro v
  rw [gallB_bit]
  by_cases hv : v < 9
  · rw [decide_eq_true hv, Bool.true_and, gposN_bit hA hs hv _ (Nat.le_refl _)]
  · rw [decide_eq_false hv, Bool.false_and]
    exact (Nat.testBit_lt_two_pow (Nat.lt_of_lt_of_le (gposN_lt S s _) (Nat.pow_le_pow_right (by decide : 2 > 0) (by omega : 9 ≤ v)))).symm
theorem gpop_split (P I : Nat) : ∀ n, n ≤ 9 → gpopN (P &&& I) n + gpopN (P &&& (511 ^^^ I)) n = gpopN P n
  | 0, _ => rfl
  | n + 1, hn => by
    have ih := gpop_split P I n (by omega)
    have h511 : (511 : Nat).testBit n = true := (by decide : ∀ v, v < 9 → (511 : Nat).testBit v = true) n (by omega)
    unfold gpopN
    rw [Nat.testBit_and, Nat.testBit_and, Nat.testBit_xor, h511]
    cases P.testBit n <;> cases I.testBit n <;> simp <;> omega
/-- the reference's court with another amount of one sign -/
theorem RMc.amt {h : qH} {S : gS} (hM : RMc h S) {s v : Nat} (hs : s < 4) : RMc (qI h 20 s (nI v)) (sS S 3 s v) := by
  unfold RMc at hM ⊢
  have e : ∀ a, a ≠ 20 → (qI h 20 s (nI v)).1 a = h.1 a := fun a ha => qI_ne ha
  rw [e 15 (by decide), e 16 (by decide), e 17 (by decide), e 18 (by decide), e 19 (by decide), e 21 (by decide), e 22 (by decide), e 23 (by decide), show sS S 3 s v 0 = S 0 from sS_ne (by decide), show sS S 3 s v 1 = S 1 from sS_ne (by decide), show sS S 3 s v 2 = S 2 from sS_ne (by decide), show sS S 3 s v 4 = S 4 from sS_ne (by decide), show sS S 3 s v 5 = S 5 from sS_ne (by decide), show sS S 3 s v 6 = S 6 from sS_ne (by decide), show sS S 3 s v 7 = S 7 from sS_ne (by decide), show sS S 3 s v 8 = S 8 from sS_ne (by decide), show sS S 3 s v 9 = S 9 from sS_ne (by decide)]
  refine ⟨hM.1, hM.2.1, fun k hk => ?_, hM.2.2.2⟩
  rw [qI_get]
  by_cases z : k = s
  · rw [if_pos ⟨rfl, z⟩, z, sS_eq]
  · rw [if_neg (fun w => z w.2), sS_nb z]
    exact hM.2.2.1 k hk
theorem GB.amt {S : gS} (hB : GB S) {s v : Nat} (hv : v < 10) : GB (sS S 3 s v) := by
  unfold GB at hB ⊢
  rw [show sS S 3 s v 0 = S 0 from sS_ne (by decide), show sS S 3 s v 1 = S 1 from sS_ne (by decide), show sS S 3 s v 2 = S 2 from sS_ne (by decide), show sS S 3 s v 4 = S 4 from sS_ne (by decide), show sS S 3 s v 5 = S 5 from sS_ne (by decide)]
  refine ⟨hB.1, hB.2.1, fun k hk => ?_, hB.2.2.2⟩
  by_cases z : k = s
  · rw [z, sS_eq]
    exact hv
  · rw [sS_nb z]
    exact hB.2.2.1 k hk
theorem GA.amt {S : gS} (hA : GA S) {s v : Nat} : GA (sS S 3 s v) := by
  unfold GA at hA ⊢
  rw [show sS S 3 s v 0 = S 0 from sS_ne (by decide), show sS S 3 s v 5 = S 5 from sS_ne (by decide), show sS S 3 s v 7 = S 7 from sS_ne (by decide), show sS S 3 s v 8 = S 8 from sS_ne (by decide), show sS S 3 s v 9 = S 9 from sS_ne (by decide)]
  exact hA
section QM3
variable {d : Nat} {h : qH} {K : qK} {S : gS}
theorem l_isAsked (hM : RMc h S) (hB : GB S) (hA : GA S) (k1 : gallN S (S 5 4) = true → K (some (.int 1)) h) (k0 : gallN S (S 5 4) = false → K (some (.int 0)) h) : ∀ m n, n + m = S 5 4 → qAt (d + 2, 111, some .boolean, q0, K) 4 [some (.ref 15), some (.int (b2 (gallN S n))), some (.int (nI n))] [] h := by
  have hn0 := hB.1
  have ha0 := hA.1
  have e := hM.2.2.2.2.2.2.2.1
  intro m
  induction m with
  | zero =>
    intro n hn
    have hn : n = S 5 4 := by omega
    refine at_wp [] 12 (Nat.le_of_ble_eq_true rfl) rfl ?_
    refine And.intro (fun _ => ?_) (fun c => absurd (by show h.1 15 11 ≤ nI n; rw [e, hn]; exact nI_le (Nat.le_refl _) (by omega)) c)
    rw [← hn] at k1 k0
    cases hb : gallN S n
    · exact ⟨Or.inl rfl, k0 hb⟩
    · exact ⟨Or.inr rfl, k1 hb⟩
  | succ m ih =>
    intro n hn
    obtain ⟨a1, a2, a3⟩ := hA.2 n (by omega)
    obtain ⟨q1, q2, q3⟩ := hM.2.2.2.2.2.2.2.2 n (by omega)
    have ec : (nI n).toNatClampNeg = n := nI_clamp (by omega)
    have ihn := ih (n + 1) (by omega)
    rw [gallN, ← nI_1] at ihn
    have e1 : ∀ x, x < 2 → (nI x = (1 : Int32) ↔ x = 1) := by decide +kernel
    refine at_wp [4] 80 (Nat.le_of_ble_eq_true rfl) rfl ?_
    refine And.intro (fun c => absurd c (by show ¬ h.1 15 11 ≤ nI n; rw [e]; exact nI_ge (by omega) (by omega))) (fun _ => ?_)
    cases hb : gallN S n
    · rw [hb, Bool.false_and] at ihn
      refine And.intro (fun _ => ?_) (fun c => absurd rfl c)
      exact ihn
    · rw [hb, Bool.true_and] at ihn
      refine And.intro (fun c => absurd c (by decide)) (fun _ => ?_)
      refine And.intro (vp_in_nI (by omega) (by decide)) ?_
      refine And.intro (vp_in_nI (by omega) (by decide)) ?_
      show qCall _ 88 [.ref 15, .int (h.1 22 (nI n).toNatClampNeg)] h _
      rw [ec, q2]
      refine m_tellAll hM.2.2.1 a2 ?_
      show qCall _ 89 [.ref 15, .int (h.1 21 n), .int (nI (gtog S (S 8 n)))] h _
      rw [q1]
      refine m_enough hM hB a1 (fun b1 => ?_) (fun b1 => ?_)
      · rw [b1] at ihn
        refine And.intro (vp_in_nI (by omega) (by decide)) ?_
        refine And.intro (fun c1 => ?_) (fun c1 => ?_)
        · have c1 : h.1 23 (nI n).toNatClampNeg = 1 := c1
          rw [ec, q3, e1 _ a3] at c1
          rw [c1] at ihn
          refine And.intro (fun _ => ?_) (fun c => absurd rfl c)
          exact ihn
        · have c1 : ¬ h.1 23 (nI n).toNatClampNeg = 1 := c1
          rw [ec, q3, e1 _ a3] at c1
          have c1 : S 9 n = 0 := by omega
          rw [c1] at ihn
          refine And.intro (fun c => absurd c (by decide)) (fun _ => ?_)
          exact ihn
      · rw [b1] at ihn
        refine And.intro (vp_in_nI (by omega) (by decide)) ?_
        refine And.intro (fun c1 => ?_) (fun c1 => ?_)
        · have c1 : h.1 23 (nI n).toNatClampNeg = 1 := c1
          rw [ec, q3, e1 _ a3] at c1
          rw [c1] at ihn
          refine And.intro (fun c => absurd c (by decide)) (fun _ => ?_)
          exact ihn
        · have c1 : ¬ h.1 23 (nI n).toNatClampNeg = 1 := c1
          rw [ec, q3, e1 _ a3] at c1
          have c1 : S 9 n = 0 := by omega
          rw [c1] at ihn
          refine And.intro (fun _ => ?_) (fun c => absurd rfl c)
          exact ihn
theorem m_isAsked (hM : RMc h S) (hB : GB S) (hA : GA S) (k1 : gallN S (S 5 4) = true → K (some (.int 1)) h) (k0 : gallN S (S 5 4) = false → K (some (.int 0)) h) : qCall (d + 3) 111 [.ref 15] h K := by
  refine call_wp (n := 4) (cut := []) _ (by decide) (Nat.lt_succ_self _) rfl rfl (Nat.le_of_ble_eq_true rfl) rfl ?_
  exact l_isAsked hM hB hA k1 k0 (S 5 4) 0 (by omega)
theorem l_tellsNow {s : Nat} (hM : RMc h S) (hB : GB S) (hA : GA S) (hs : s < 4) (hk : K (some (.int (nI (gposN S s (S 5 4))))) h) : ∀ m v, v + m = 9 → ∀ w, qAt (d + 3, 112, some .int, q0, K) 9 [some (.ref 15), some (.int (nI s)), some (.int (h.1 20 s)), some (.int (nI (gallB S s v))), some (.int (nI (v + 1)))] [] (qI h 20 s w) := by
  have ec : (nI s).toNatClampNeg = s := nI_clamp (by omega)
  intro m
  induction m with
  | zero =>
    intro v hv w
    have hv : v = 9 := by omega
    subst hv
    refine at_wp [] 20 (Nat.le_of_ble_eq_true rfl) rfl ?_
    refine And.intro (fun _ => ?_) (fun c => absurd (by decide) c)
    refine And.intro (vp_in_nI (by omega) (by decide)) ?_
    show K (some (.int (nI (gallB S s 9)))) (qI (qI h 20 s w) 20 (nI s).toNatClampNeg (h.1 20 s))
    rw [ec, qI_qI, qI_self, gallB_pos hA hs]
    exact hk
  | succ m ih =>
    intro v hv w
    have hlt := gallB_lt S s v
    have hl2 : gallB S s v < 512 := Nat.lt_of_lt_of_le hlt (Nat.pow_le_pow_right (by decide : 2 > 0) (by omega : v ≤ 9))
    have ihn := ih (v + 1) (by omega) (nI (v + 1))
    rw [gallB, ← nI_1 (v + 1)] at ihn
    have hM' := hM.amt (s := s) (v := v + 1) hs
    have hB' := hB.amt (s := s) (v := v + 1) (by omega)
    have hA' := hA.amt (s := s) (v := v + 1)
    have e54 : sS S 3 s (v + 1) 5 4 = S 5 4 := by rw [sS_ne (by decide)]
    refine at_wp [9] 60 (Nat.le_of_ble_eq_true rfl) rfl ?_
    refine And.intro (fun c => absurd c (nI_nlt (a := 9) (b := v + 1) (by omega) (by decide))) (fun _ => ?_)
    refine And.intro (vp_in_nI (by omega) (by decide)) ?_
    show qCall _ 111 [.ref 15] (qI (qI h 20 s w) 20 (nI s).toNatClampNeg (nI (v + 1))) _
    rw [ec, qI_qI]
    refine m_isAsked hM' hB' hA' (fun b1 => ?_) (fun b1 => ?_)
    · rw [e54] at b1
      rw [if_pos b1] at ihn
      refine And.intro (fun c => absurd c (by decide)) (fun _ => ?_)
      show qAt _ 9 [some (.ref 15), some (.int (nI s)), some (.int (h.1 20 s)), some (.int (nI (gallB S s v) ||| (1 <<< (nI (v + 1) - 1 &&& 31)))), some (.int (nI (v + 1) + 1))] [] _
      rw [nI_pred, bits_or v (by omega) _ hlt]
      exact ihn
    · rw [e54] at b1
      rw [if_neg (by rw [b1]; decide), Nat.or_zero] at ihn
      refine And.intro (fun _ => ?_) (fun c => absurd rfl c)
      show qAt _ 9 [some (.ref 15), some (.int (nI s)), some (.int (h.1 20 s)), some (.int (nI (gallB S s v) ||| nI 0)), some (.int (nI (v + 1) + 1))] [] _
      rw [bits_or0 _ hl2]
      exact ihn
theorem m_tellsNow {s : Nat} (hM : RMc h S) (hB : GB S) (hA : GA S) (hs : s < 4) (hk : K (some (.int (nI (gposN S s (S 5 4))))) h) : qCall (d + 4) 112 [.ref 15, .int (nI s)] h K := by
  have ec : (nI s).toNatClampNeg = s := nI_clamp (by omega)
  refine call_wp (n := 9) (cut := []) _ (by decide) (Nat.lt_succ_self _) rfl rfl (Nat.le_of_ble_eq_true rfl) rfl ?_
  refine And.intro (vp_in_nI (by omega) (by decide)) ?_
  have := l_tellsNow (d := d) hM hB hA hs hk 9 0 rfl (h.1 20 s)
  rw [qI_self] at this
  show qAt _ 9 [some (.ref 15), some (.int (nI s)), some (.int (h.1 20 (nI s).toNatClampNeg)), some (.int (nI 0)), some (.int (nI 1))] [] h
  rw [ec]
  exact this
theorem m_tells {k : Int32} (hM : RM h S) (hG : RG S) (hk : K (some (.int (aTells S k))) h) : qCall (d + 5) 113 [.ref 15, .int k] h K := by
  have hB := hG.1
  unfold aTells at hk
  refine call_wp (n := 40) (cut := []) _ (by decide) (Nat.lt_succ_self _) rfl rfl (Nat.le_of_ble_eq_true rfl) rfl ?_
  refine m_isSign hM.1 hB (fun n hn h0 ep => ?_) (fun hp => ?_)
  · subst ep
    rw [isg_some h0 hn] at hk
    refine And.intro (fun c => absurd c (by decide)) (fun _ => ?_)
    exact m_tellsNow hM.1 hB hG.2.1 hn hk
  · rw [isg_none hp] at hk
    refine And.intro (fun _ => ?_) (fun c => absurd rfl c)
    exact hk
end QM3
end
section
/-! ## the reference: what to ask next, of one, how many -/
theorem gpopN_le (n : Nat) : ∀ k, gpopN n k ≤ k
  | 0 => Nat.le_refl _
  | k + 1 => by
    have := gpopN_le n k
    unfold gpopN
    split <;> omega
theorem bits_v : ∀ P, P < 512 → ∀ v, v < 9 → nI P >>> (nI v &&& 31) &&& 1 = nI (if P.testBit v then 1 else 0) := by decide +kernel
theorem gbq_10 {S : gS} {s P : Nat} : ∀ q, (gbq S s P q).1 = 0 → (gbq S s P q).2 = 10
  | 0, _ => rfl
  | q + 1, h => by
    unfold gbq at h ⊢
    split at h
    · cases h
    · rename_i hc
      rw [if_neg hc]
      exact gbq_10 q h
def aOne (S : gS) (n k : Nat) : Int32 := match k with
  | 0 => nI (S 1 n)
  | 1 => nI (S 2 n)
  | 2 => nI (S 4 n)
  | 3 => nI (gtog S (S 4 n))
  | 4 => b2 (ginf S n (S 4 n))
  | 5 => b2 ((S 5 0).testBit n)
  | 6 => b2 ((S 5 1).testBit n)
  | _ => nI (S 6 n)
theorem aAbout_one {S : gS} {n k : Nat} {w : Int32} (hB : GB S) (hn : n < S 0 0) (hk : k < 8) (hw : ix w 8 = some k) : aAbout S (nI n) w = aOne S n k := by
  unfold aAbout aOne
  rw [ip_some hB hn, hw]
  match k, hk with
  | 0, _ => rfl
  | 1, _ => rfl
  | 2, _ => rfl
  | 3, _ => rfl
  | 4, _ => rfl
  | 5, _ => rfl
  | 6, _ => rfl
  | 7, _ => rfl
section QM4
variable {d : Nat} {h : qH} {K : qK} {S : gS}
theorem l_worst {s P p sg : Nat} (hM : RMc h S) (hB : GB S) (hs : s < 4) (hP : P < 512) (hp : p < S 0 0) (hsg : sg < 16) (hk : K (some (.int (nI (max (gpop (P &&& gamt S p sg s)) (gpop (P &&& (511 ^^^ gamt S p sg s))))))) h) : ∀ m v, v + m = 9 → ∀ w, qAt (d + 2, 114, some .int, q0, K) 11 [some (.ref 15), some (.int (nI s)), some (.int (nI P)), some (.int (nI p)), some (.int (nI sg)), some (.int (h.1 20 s)), some (.int (nI (gpopN (P &&& gamt S p sg s) v))), some (.int (nI (gpopN P v))), some (.int (nI (v + 1)))] [] (qI h 20 s w) := by
  have hn0 := hB.1
  have ec : (nI s).toNatClampNeg = s := nI_clamp (by omega)
  intro m
  induction m with
  | zero =>
    intro v hv w
    have hv : v = 9 := by omega
    subst hv
    have l1 : gpopN (P &&& gamt S p sg s) 9 ≤ 9 := gpopN_le _ 9
    have l2 : gpopN P 9 ≤ 9 := gpopN_le _ 9
    have sp := gpop_split P (gamt S p sg s) 9 (Nat.le_refl 9)
    have ed : nI (gpopN P 9) - nI (gpopN (P &&& gamt S p sg s) 9) = nI (gpop (P &&& (511 ^^^ gamt S p sg s))) := by
      rw [pk_sub (by omega)]
      unfold gpop
      congr 1
      omega
    refine at_wp [] 40 (Nat.le_of_ble_eq_true rfl) rfl ?_
    refine And.intro (fun _ => ?_) (fun c => absurd (by decide) c)
    refine And.intro (vp_in_nI (by omega) (by decide)) ?_
    refine And.intro (fun c1 => ?_) (fun c1 => ?_)
    · have c1 : nI (gpopN (P &&& gamt S p sg s) 9) ≤ nI (gpopN P 9) - nI (gpopN (P &&& gamt S p sg s) 9) := c1
      rw [ed, nI_leI (by omega) (by unfold gpop; have := gpopN_le (P &&& (511 ^^^ gamt S p sg s)) 9; omega)] at c1
      show K (some (.int (nI (gpopN P 9) - nI (gpopN (P &&& gamt S p sg s) 9)))) (qI (qI h 20 s w) 20 (nI s).toNatClampNeg (h.1 20 s))
      rw [ec, qI_qI, qI_self, ed]
      rw [Nat.max_eq_right (by unfold gpop at c1 ⊢; exact c1)] at hk
      exact hk
    · have c1 : ¬ nI (gpopN (P &&& gamt S p sg s) 9) ≤ nI (gpopN P 9) - nI (gpopN (P &&& gamt S p sg s) 9) := c1
      rw [ed, nI_leI (by omega) (by unfold gpop; have := gpopN_le (P &&& (511 ^^^ gamt S p sg s)) 9; omega)] at c1
      show K (some (.int (nI (gpopN (P &&& gamt S p sg s) 9)))) (qI (qI h 20 s w) 20 (nI s).toNatClampNeg (h.1 20 s))
      rw [ec, qI_qI, qI_self]
      rw [Nat.max_eq_left (by unfold gpop at c1 ⊢; omega)] at hk
      exact hk
  | succ m ih =>
    intro v hv w
    have hM' := hM.amt (s := s) (v := v + 1) hs
    have hB' := hB.amt (s := s) (v := v + 1) (by omega)
    have ihn := ih (v + 1) (by omega) (nI (v + 1))
    rw [gpopN, gpopN, ← nI_1 (v + 1), Nat.testBit_and, gamt_bit hs hsg (by omega : v < 9), ← nI_add (gpopN P v), ← nI_add (gpopN (P &&& gamt S p sg s) v)] at ihn
    have ev : nI (if P.testBit v then 1 else 0) = nI P >>> (nI (v + 1) - 1 &&& 31) &&& 1 := by
      rw [nI_pred]
      exact (bits_v P hP v (by omega)).symm
    rw [ev] at ihn
    have hp' : p < sS S 3 s (v + 1) 0 0 := by rw [sS_ne (by decide)]; exact hp
    refine at_wp [11] 90 (Nat.le_of_ble_eq_true rfl) rfl ?_
    refine And.intro (fun c => absurd c (nI_nlt (a := 9) (b := v + 1) (by omega) (by decide))) (fun _ => ?_)
    refine And.intro (vp_in_nI (by omega) (by decide)) ?_
    show qCall _ 74 [.int (nI P), .int (nI (v + 1) - 1)] (qI (qI h 20 s w) 20 (nI s).toNatClampNeg (nI (v + 1))) _
    rw [ec, qI_qI, nI_pred]
    refine m_isIn hP (by omega) (fun b1 => ?_) (fun b1 => ?_)
    · rw [b1, Bool.true_and] at ihn
      refine And.intro (fun c => absurd c (by decide)) (fun _ => ?_)
      refine m_tellAll hM'.2.2.1 hsg ?_
      refine m_enough hM' hB' hp' (fun b2 => ?_) (fun b2 => ?_)
      · refine And.intro (fun c => absurd c (by decide)) (fun _ => ?_)
        rw [b2] at ihn
        exact ihn
      · refine And.intro (fun _ => ?_) (fun c => absurd rfl c)
        rw [b2] at ihn
        exact ihn
    · rw [b1, Bool.false_and] at ihn
      refine And.intro (fun _ => ?_) (fun c => absurd rfl c)
      exact ihn
theorem m_worstBy {s P p sg : Nat} (hM : RMc h S) (hB : GB S) (hs : s < 4) (hP : P < 512) (hp : p < S 0 0) (hsg : sg < 16) (hk : K (some (.int (nI (max (gpop (P &&& gamt S p sg s)) (gpop (P &&& (511 ^^^ gamt S p sg s))))))) h) : qCall (d + 3) 114 [.ref 15, .int (nI s), .int (nI P), .int (nI p), .int (nI sg)] h K := by
  have ec : (nI s).toNatClampNeg = s := nI_clamp (by omega)
  refine call_wp (n := 11) (cut := []) _ (by decide) (Nat.lt_succ_self _) rfl rfl (Nat.le_of_ble_eq_true rfl) rfl ?_
  refine And.intro (vp_in_nI (by omega) (by decide)) ?_
  have := l_worst (d := d) hM hB hs hP hp hsg hk 9 0 rfl (h.1 20 s)
  rw [qI_self] at this
  show qAt _ 11 [some (.ref 15), some (.int (nI s)), some (.int (nI P)), some (.int (nI p)), some (.int (nI sg)), some (.int (h.1 20 (nI s).toNatClampNeg)), some (.int (nI 0)), some (.int (nI 0)), some (.int (nI 1))] [] h
  rw [ec]
  exact this
def gfar (q : Nat × Nat) : Int32 := if q.1 = 0 then nI 268435456 else nI q.2
theorem l_mnext {s P : Nat} (hM : RMc h S) (hB : GB S) (hs : s < 4) (hP : P < 512) (hk : K (some (.int (if P = 0 then -1 else ib (gbq S s P (16 * S 0 0)).1))) h) : ∀ m q, q + m = 16 * S 0 0 → (P = 0 → q = 0) → ∀ u, qAt (d + 3, 115, some .int, q0, K) 10 [some (.ref 15), some (.int (nI s)), some (.int (nI P)), some (.int (ib (gbq S s P q).1)), some (.int (gfar (gbq S s P q))), some (.int (nI q)), u] [] h := by
  have hn0 := hB.1
  have e : (16 : Int32) * h.1 15 1 = nI (16 * S 0 0) := by rw [hM.1]; exact pk_mul 16 _
  intro m
  induction m with
  | zero =>
    intro q hq hz u
    have hq : q = 16 * S 0 0 := by omega
    refine at_wp [] 12 (Nat.le_of_ble_eq_true rfl) rfl ?_
    refine And.intro (fun _ => ?_) (fun c => absurd (by show (16 : Int32) * h.1 15 1 ≤ nI q; rw [e, hq]; exact nI_le (Nat.le_refl _) (by omega)) c)
    by_cases hP0 : P = 0
    · have h0 := hz hP0
      subst h0
      rw [if_pos hP0] at hk
      exact hk
    · rw [if_neg hP0, ← hq] at hk
      exact hk
  | succ m ih =>
    intro q hq hz u
    have hq64 : q < 64 := by omega
    refine at_wp [10] 90 (Nat.le_of_ble_eq_true rfl) rfl ?_
    refine And.intro (fun c => absurd c (by show ¬ (16 : Int32) * h.1 15 1 ≤ nI q; rw [e]; exact nI_ge (by omega) (by omega))) (fun _ => ?_)
    refine And.intro (fun c1 => ?_) (fun c1 => ?_)
    · have c1 : nI P = nI 0 := c1
      rw [nI_eq (by omega) (by omega)] at c1
      have h0 := hz c1
      subst h0
      rw [if_pos c1] at hk
      exact hk
    · have c1 : ¬ nI P = nI 0 := c1
      rw [nI_eq (by omega) (by omega)] at c1
      have ihq := ih (q + 1) (by omega) (fun z => absurd z c1)
      refine And.intro (by decide) ?_
      show qCall _ 74 [.int (nI q - nI q / nI 16 * nI 16), .int (nI s)] h _
      rw [pk_rem (by omega) (by decide) (by decide)]
      refine m_isIn (by omega) (by omega) (fun b1 => ?_) (fun b1 => ?_)
      · have b1' : q.testBit s = true := ((by decide +kernel : ∀ q, q < 64 → ∀ s, s < 4 → (q % 16).testBit s = q.testBit s) q hq64 s hs) ▸ b1
        refine And.intro (fun c => absurd c (by decide)) (fun _ => ?_)
        refine And.intro (by decide) ?_
        refine And.intro (by decide) ?_
        show qCall _ 114 [.ref 15, .int (nI s), .int (nI P), .int (nI q / nI 16), .int (nI q - nI q / nI 16 * nI 16)] h _
        rw [pk_rem (by omega) (by decide) (by decide), pk_div (by omega) (by decide) (by decide)]
        refine m_worstBy hM hB hs hP (by omega) (by omega) ?_
        have l3 := gleft_le (S := S) (s := s) (q := q) hP
        have l4 := gbq_le (S := S) (s := s) hP q
        have efar : (gleft S s P q < (gbq S s P q).2) ↔ nI (gleft S s P q) < gfar (gbq S s P q) := by
          unfold gfar
          by_cases z : (gbq S s P q).1 = 0
          · rw [if_pos z, nI_ltI (by omega) (by decide), gbq_10 q z]
            constructor <;> intro _ <;> omega
          · rw [if_neg z, nI_ltI (by omega) (by omega)]
        refine And.intro (fun c2 => ?_) (fun c2 => ?_)
        · have c2 : gfar (gbq S s P q) ≤ nI (gleft S s P q) := c2
          have c3 : ¬ gleft S s P q < (gbq S s P q).2 := fun z => Int32.not_lt.mpr c2 (efar.mp z)
          rw [gbq, b1', decide_eq_false c3, Bool.and_false, ← nI_1] at ihq
          refine And.intro (fun _ => ?_) (fun c => absurd c2 c)
          exact ihq _
        · have c2 : ¬ gfar (gbq S s P q) ≤ nI (gleft S s P q) := c2
          have c3 : gleft S s P q < (gbq S s P q).2 := efar.mpr (Int32.not_le.mp c2)
          have eb : ib (q + 1, gleft S s P q).1 = nI q := nI_pred q
          have ef : gfar (q + 1, gleft S s P q) = nI (gleft S s P q) := if_neg (Nat.succ_ne_zero q)
          rw [gbq, b1', decide_eq_true c3, Bool.and_true, if_pos rfl, ← nI_1, eb, ef] at ihq
          refine And.intro (fun c => absurd c c2) (fun _ => ?_)
          exact ihq _
      · have b1' : q.testBit s = false := ((by decide +kernel : ∀ q, q < 64 → ∀ s, s < 4 → (q % 16).testBit s = q.testBit s) q hq64 s hs) ▸ b1
        refine And.intro (fun _ => ?_) (fun c => absurd rfl c)
        rw [gbq, b1', Bool.false_and, ← nI_1] at ihq
        exact ihq _
theorem m_nextNow {s : Nat} (hM : RMc h S) (hB : GB S) (hA : GA S) (hs : s < 4) (hk : K (some (.int (if gposN S s (S 5 4) = 0 then -1 else ib (gbq S s (gposN S s (S 5 4)) (16 * S 0 0)).1))) h) : qCall (d + 5) 115 [.ref 15, .int (nI s)] h K := by
  refine call_wp (n := 10) (cut := []) _ (by decide) (Nat.lt_succ_self _) rfl rfl (Nat.le_of_ble_eq_true rfl) rfl ?_
  refine m_tellsNow hM hB hA hs ?_
  exact l_mnext hM hB hs (gposN_lt S s _) hk (16 * S 0 0) 0 (by omega) (fun _ => rfl) _
theorem m_next {k : Int32} (hM : RM h S) (hG : RG S) (hk : K (some (.int (aNext S k))) h) : qCall (d + 6) 116 [.ref 15, .int k] h K := by
  have hB := hG.1
  unfold aNext at hk
  refine call_wp (n := 40) (cut := []) _ (by decide) (Nat.lt_succ_self _) rfl rfl (Nat.le_of_ble_eq_true rfl) rfl ?_
  refine m_isSign hM.1 hB (fun n hn h0 ep => ?_) (fun hp => ?_)
  · subst ep
    rw [isg_some h0 hn] at hk
    refine And.intro (fun c => absurd c (by decide)) (fun _ => ?_)
    exact m_nextNow hM.1 hB hG.2.1 hn hk
  · rw [isg_none hp] at hk
    refine And.intro (fun _ => ?_) (fun c => absurd rfl c)
    exact hk
theorem m_oneNow {n k : Nat} (hM : RMc h S) (hB : GB S) (hn : n < S 0 0) (hk8 : k < 8) (hk : K (some (.int (aOne S n k))) h) : qCall (d + 4) 91 [.ref 15, .int (nI n), .int (nI k)] h K := by
  have hn0 := hB.1
  have ec : (nI n).toNatClampNeg = n := nI_clamp (by omega)
  obtain ⟨q1, q2, q3, q4⟩ := hM.2.1 n hn
  have hh := hB.2.2.2.1
  have hs := hB.2.2.2.2.1
  match k, hk8, hk with
  | 0, _, hk =>
    refine call_wp (n := 40) (cut := []) _ (by decide) (Nat.lt_succ_self _) rfl rfl (Nat.le_of_ble_eq_true rfl) rfl ?_
    refine And.intro (fun _ => ?_) (fun c => absurd rfl c)
    refine And.intro (vp_in_nI (by omega) (by decide)) ?_
    exact kI hk (by show _ = h.1 16 (nI n).toNatClampNeg; rw [ec, q1]; rfl)
  | 1, _, hk =>
    refine call_wp (n := 40) (cut := []) _ (by decide) (Nat.lt_succ_self _) rfl rfl (Nat.le_of_ble_eq_true rfl) rfl ?_
    refine And.intro (fun c => absurd c (by decide)) (fun _ => ?_)
    refine And.intro (fun _ => ?_) (fun c => absurd rfl c)
    refine And.intro (vp_in_nI (by omega) (by decide)) ?_
    exact kI hk (by show _ = h.1 17 (nI n).toNatClampNeg; rw [ec, q2]; rfl)
  | 2, _, hk =>
    refine call_wp (n := 40) (cut := []) _ (by decide) (Nat.lt_succ_self _) rfl rfl (Nat.le_of_ble_eq_true rfl) rfl ?_
    refine And.intro (fun c => absurd c (by decide)) (fun _ => ?_)
    refine And.intro (fun c => absurd c (by decide)) (fun _ => ?_)
    refine And.intro (fun _ => ?_) (fun c => absurd rfl c)
    refine And.intro (vp_in_nI (by omega) (by decide)) ?_
    exact kI hk (by show _ = h.1 18 (nI n).toNatClampNeg; rw [ec, q3]; rfl)
  | 3, _, hk =>
    refine call_wp (n := 40) (cut := []) _ (by decide) (Nat.lt_succ_self _) rfl rfl (Nat.le_of_ble_eq_true rfl) rfl ?_
    refine And.intro (fun c => absurd c (by decide)) (fun _ => ?_)
    refine And.intro (fun c => absurd c (by decide)) (fun _ => ?_)
    refine And.intro (fun c => absurd c (by decide)) (fun _ => ?_)
    refine And.intro (fun _ => ?_) (fun c => absurd rfl c)
    refine And.intro (vp_in_nI (by omega) (by decide)) ?_
    show qCall _ 88 [.ref 15, .int (h.1 18 (nI n).toNatClampNeg)] h _
    rw [ec, q3]
    exact m_tellAll hM.2.2.1 (hB.2.1 n hn).2.2 hk
  | 4, _, hk =>
    refine call_wp (n := 40) (cut := []) _ (by decide) (Nat.lt_succ_self _) rfl rfl (Nat.le_of_ble_eq_true rfl) rfl ?_
    refine And.intro (fun c => absurd c (by decide)) (fun _ => ?_)
    refine And.intro (fun c => absurd c (by decide)) (fun _ => ?_)
    refine And.intro (fun c => absurd c (by decide)) (fun _ => ?_)
    refine And.intro (fun c => absurd c (by decide)) (fun _ => ?_)
    refine And.intro (fun _ => ?_) (fun c => absurd rfl c)
    refine m_infers hM hB hn (fun b => ?_) (fun b => ?_)
    · refine And.intro (fun c => absurd c (by decide)) (fun _ => ?_)
      unfold aOne at hk
      rw [b] at hk
      exact hk
    · refine And.intro (fun _ => ?_) (fun c => absurd rfl c)
      unfold aOne at hk
      rw [b] at hk
      exact hk
  | 5, _, hk =>
    refine call_wp (n := 40) (cut := []) _ (by decide) (Nat.lt_succ_self _) rfl rfl (Nat.le_of_ble_eq_true rfl) rfl ?_
    refine And.intro (fun c => absurd c (by decide)) (fun _ => ?_)
    refine And.intro (fun c => absurd c (by decide)) (fun _ => ?_)
    refine And.intro (fun c => absurd c (by decide)) (fun _ => ?_)
    refine And.intro (fun c => absurd c (by decide)) (fun _ => ?_)
    refine And.intro (fun c => absurd c (by decide)) (fun _ => ?_)
    refine And.intro (fun _ => ?_) (fun c => absurd rfl c)
    refine kI hk ?_
    show _ = h.1 15 8 >>> (nI n &&& 31) &&& 1
    rw [hM.2.2.2.2.1, bit_val _ hh n (by omega)]
    rfl
  | 6, _, hk =>
    refine call_wp (n := 40) (cut := []) _ (by decide) (Nat.lt_succ_self _) rfl rfl (Nat.le_of_ble_eq_true rfl) rfl ?_
    refine And.intro (fun c => absurd c (by decide)) (fun _ => ?_)
    refine And.intro (fun c => absurd c (by decide)) (fun _ => ?_)
    refine And.intro (fun c => absurd c (by decide)) (fun _ => ?_)
    refine And.intro (fun c => absurd c (by decide)) (fun _ => ?_)
    refine And.intro (fun c => absurd c (by decide)) (fun _ => ?_)
    refine And.intro (fun c => absurd c (by decide)) (fun _ => ?_)
    refine And.intro (fun _ => ?_) (fun c => absurd rfl c)
    refine kI hk ?_
    show _ = h.1 15 9 >>> (nI n &&& 31) &&& 1
    rw [hM.2.2.2.2.2.1, bit_val _ hs n (by omega)]
    rfl
  | 7, _, hk =>
    refine call_wp (n := 40) (cut := []) _ (by decide) (Nat.lt_succ_self _) rfl rfl (Nat.le_of_ble_eq_true rfl) rfl ?_
    refine And.intro (fun c => absurd c (by decide)) (fun _ => ?_)
    refine And.intro (fun c => absurd c (by decide)) (fun _ => ?_)
    refine And.intro (fun c => absurd c (by decide)) (fun _ => ?_)
    refine And.intro (fun c => absurd c (by decide)) (fun _ => ?_)
    refine And.intro (fun c => absurd c (by decide)) (fun _ => ?_)
    refine And.intro (fun c => absurd c (by decide)) (fun _ => ?_)
    refine And.intro (fun c => absurd c (by decide)) (fun _ => ?_)
    refine And.intro (vp_in_nI (by omega) (by decide)) ?_
    exact kI hk (by show _ = h.1 19 (nI n).toNatClampNeg; rw [ec, q4]; rfl)
theorem m_about {p w : Int32} (hM : RM h S) (hG : RG S) (hk : K (some (.int (aAbout S p w))) h) : qCall (d + 5) 92 [.ref 15, .int p, .int w] h K := by
  have hB := hG.1
  refine call_wp (n := 40) (cut := []) _ (by decide) (Nat.lt_succ_self _) rfl rfl (Nat.le_of_ble_eq_true rfl) rfl ?_
  refine m_isOne hM.1 hB (fun n hn ep => ?_) (fun hp => ?_)
  · subst ep
    refine And.intro (fun c => absurd c (by decide)) (fun _ => ?_)
    refine m_within (lo := 0) (hi := 7) (by decide) (by decide) (fun k h1 h2 e => ?_) (fun hj => ?_)
    · subst e
      rw [aAbout_one hB hn (k := k) (by omega) (ix_some (by omega) (by decide))] at hk
      refine And.intro (fun c => absurd c (by decide)) (fun _ => ?_)
      exact m_oneNow hM.1 hB hn (by omega) hk
    · refine And.intro (fun _ => ?_) (fun c => absurd rfl c)
      unfold aAbout at hk
      rw [ip_some hB hn, show ix w 8 = none from ix_none (by decide) (fun j hj' => hj j (by omega) (by omega))] at hk
      exact hk
  · unfold aAbout at hk
    rw [ip_none hB hp] at hk
    refine And.intro (fun _ => ?_) (fun c => absurd rfl c)
    exact hk
theorem l_inferring (hM : RMc h S) (hB : GB S) (hk : K (some (.int (nI (ginfN S (S 0 0))))) h) : ∀ m n, n + m = S 0 0 → qAt (d + 3, 118, some .int, q0, K) 4 [some (.ref 15), some (.int (nI (ginfN S n))), some (.int (nI n))] [] h := by
  have hn0 := hB.1
  have e := hM.1
  intro m
  induction m with
  | zero =>
    intro n hn
    have hn : n = S 0 0 := by omega
    refine at_wp [] 12 (Nat.le_of_ble_eq_true rfl) rfl ?_
    refine And.intro (fun _ => ?_) (fun c => absurd (by show h.1 15 1 ≤ nI n; rw [e, hn]; exact nI_le (Nat.le_refl _) (by omega)) c)
    rw [← hn] at hk
    exact hk
  | succ m ih =>
    intro n hn
    have ihn := ih (n + 1) (by omega)
    rw [ginfN, ← nI_1 n] at ihn
    refine at_wp [4] 60 (Nat.le_of_ble_eq_true rfl) rfl ?_
    refine And.intro (fun c => absurd c (by show ¬ h.1 15 1 ≤ nI n; rw [e]; exact nI_ge (by omega) (by omega))) (fun _ => ?_)
    refine m_infers hM hB (by omega) (fun b1 => ?_) (fun b1 => ?_)
    · refine And.intro (fun c => absurd c (by decide)) (fun _ => ?_)
      rw [if_pos b1, ← nI_1] at ihn
      exact ihn
    · refine And.intro (fun _ => ?_) (fun c => absurd rfl c)
      rw [b1] at ihn
      show qAt _ 4 [some (.ref 15), some (.int (nI (ginfN S n) + nI 0)), some (.int (nI n + 1))] [] h
      rw [nI_add]
      exact ihn
theorem m_inferring (hM : RMc h S) (hB : GB S) (hk : K (some (.int (nI (ginfN S (S 0 0))))) h) : qCall (d + 4) 118 [.ref 15] h K := by
  refine call_wp (n := 4) (cut := []) _ (by decide) (Nat.lt_succ_self _) rfl rfl (Nat.le_of_ble_eq_true rfl) rfl ?_
  exact l_inferring hM hB hk (S 0 0) 0 (by omega)
theorem m_howMany {w : Int32} (hM : RM h S) (hG : RG S) (hk : K (some (.int (aCount S w))) h) : qCall (d + 5) 123 [.ref 15, .int w] h K := by
  have hB := hG.1
  have hn0 := hB.1
  unfold aCount at hk
  refine call_wp (n := 60) (cut := []) _ (by decide) (Nat.lt_succ_self _) rfl rfl (Nat.le_of_ble_eq_true rfl) rfl ?_
  refine And.intro (fun c0 => ?_) (fun c0 => ?_)
  · rw [c0, show ix (Int32.ofInt 0) 10 = some 0 by decide +kernel] at hk
    exact kI hk hM.1.1.symm
  · have _u := 0
    refine And.intro (fun c1 => ?_) (fun c1 => ?_)
    · rw [c1, show ix (Int32.ofInt 1) 10 = some 1 by decide +kernel] at hk
      exact m_inferring hM.1 hB hk
    · have _u := 0
      refine And.intro (fun c2 => ?_) (fun c2 => ?_)
      · rw [c2, show ix (Int32.ofInt 2) 10 = some 2 by decide +kernel] at hk
        show qCall _ 75 [.int (h.1 15 8)] h _
        rw [hM.1.2.2.2.2.1]
        exact m_size (hB.2.2.2.1) hk
      · have _u := 0
        refine And.intro (fun c3 => ?_) (fun c3 => ?_)
        · rw [c3, show ix (Int32.ofInt 3) 10 = some 3 by decide +kernel] at hk
          show qCall _ 75 [.int (h.1 15 9)] h _
          rw [hM.1.2.2.2.2.2.1]
          exact m_size (hB.2.2.2.2.1) hk
        · have _u := 0
          refine And.intro (fun c4 => ?_) (fun c4 => ?_)
          · rw [c4, show ix (Int32.ofInt 4) 10 = some 4 by decide +kernel] at hk
            show qCall _ 75 [.int (h.1 15 7)] h _
            rw [hM.1.2.2.2.1]
            exact m_size (hB.2.2.2.2.2) hk
          · have _u := 0
            refine And.intro (fun c5 => ?_) (fun c5 => ?_)
            · rw [c5, show ix (Int32.ofInt 5) 10 = some 5 by decide +kernel] at hk
              exact kI hk hM.1.2.2.2.2.2.2.1.symm
            · have _u := 0
              refine And.intro (fun c6 => ?_) (fun c6 => ?_)
              · rw [c6, show ix (Int32.ofInt 6) 10 = some 6 by decide +kernel] at hk
                exact kI hk hM.1.2.2.2.2.2.2.2.1.symm
              · have _u := 0
                refine And.intro (fun c7 => ?_) (fun c7 => ?_)
                · rw [c7, show ix (Int32.ofInt 7) 10 = some 7 by decide +kernel] at hk
                  exact kI hk hM.2.2.1.symm
                · have _u := 0
                  refine And.intro (fun c8 => ?_) (fun c8 => ?_)
                  · rw [c8, show ix (Int32.ofInt 8) 10 = some 8 by decide +kernel] at hk
                    exact kI hk hM.2.2.2.2.1.symm
                  · have _u := 0
                    refine And.intro (fun c9 => ?_) (fun c9 => ?_)
                    · rw [c9, show ix (Int32.ofInt 9) 10 = some 9 by decide +kernel] at hk
                      exact kI hk hM.2.1.symm
                    · rw [ix10 c0 c1 c2 c3 c4 c5 c6 c7 c8 c9] at hk
                      exact hk
theorem m_count {w : Int32} (hM : RM h S) (hG : RG S) (hk : K (some (.int (aCount S w))) h) : qCall (d + 6) 124 [.ref 15, .int w] h K := by
  refine call_wp (n := 10) (cut := []) _ (by decide) (Nat.lt_succ_self _) rfl rfl (Nat.le_of_ble_eq_true rfl) rfl ?_
  exact m_howMany hM hG hk
end QM4
end
section
/-! ## the reference: a word told, a letter, a question, what is forbidden -/
theorem RM.scene {h h' : qH} {S S' : gS} (hM : RM h S) (e15 : ∀ k, k ≠ 1 → k < 7 ∨ 11 < k → h'.1 15 k = h.1 15 k) (f : ∀ a, a = 24 ∨ 25 < a → h'.1 a = h.1 a) (hR : RMc h' S') (e : ∀ a, a < 4 ∨ 10 ≤ a → S' a = S a) : RM h' S' := by
  obtain ⟨x1, x2, x3, x4, x5, ⟨kf, kc, k1, k2, k3, k4, k5⟩, x7⟩ := hM
  unfold RM RMk
  rw [e 0 (by omega), e 10 (by omega), e 11 (by omega), e 12 (by omega), e 13 (by omega), e 14 (by omega), e 15 (by omega), e 16 (by omega), e 17 (by omega), e 18 (by omega), e 19 (by omega), f 24 (by omega), f 26 (by omega), f 27 (by omega), f 28 (by omega), f 29 (by omega), f 30 (by omega), e15 15 (by omega) (by omega), e15 16 (by omega) (by omega), e15 0 (by omega) (by omega), e15 22 (by omega) (by omega), e15 23 (by omega) (by omega), e15 24 (by omega) (by omega), e15 25 (by omega) (by omega), e15 26 (by omega) (by omega), e15 27 (by omega) (by omega), e15 28 (by omega) (by omega)]
  exact ⟨hR, x2, x3, x4, x5, ⟨kf, kc, k1, k2, k3, k4, k5⟩, x7⟩
theorem RMc.S {h : qH} {S S' : gS} (hM : RMc h S) (e : ∀ a, a < 10 → S' a = S a) : RMc h S' := by
  unfold RMc at hM ⊢
  rw [e 0 (by decide), e 1 (by decide), e 2 (by decide), e 3 (by decide), e 4 (by decide), e 5 (by decide), e 6 (by decide), e 7 (by decide), e 8 (by decide), e 9 (by decide)]
  exact hM
theorem RMc.h {h h' : qH} {S : gS} (hM : RMc h S) (e15 : ∀ k, k = 1 ∨ (7 ≤ k ∧ k ≤ 11) → h'.1 15 k = h.1 15 k) (f : ∀ a, 15 < a → a < 24 → h'.1 a = h.1 a) : RMc h' S := by
  unfold RMc at hM ⊢
  rw [e15 1 (by omega), e15 7 (by omega), e15 8 (by omega), e15 9 (by omega), e15 10 (by omega), e15 11 (by omega), f 16 (by omega) (by omega), f 17 (by omega) (by omega), f 18 (by omega) (by omega), f 19 (by omega) (by omega), f 20 (by omega) (by omega), f 21 (by omega) (by omega), f 22 (by omega) (by omega), f 23 (by omega) (by omega)]
  exact hM
def mor (b : Bool) (x : Int32) : Int32 := match b with
  | true => x
  | false => 0
def mph (h : qH) (f t s : Nat) (hb sb : Bool) : qH :=
  let h1 := qI h 18 (nI t).toNatClampNeg (h.1 18 (nI t).toNatClampNeg ||| (1 <<< (nI s &&& 31)))
  let h2 := qI h1 15 8 (h1.1 15 8 ||| mor hb (1 <<< (nI f &&& 31)))
  let h3 := qI h2 15 9 (h2.1 15 9 ||| mor sb (1 <<< (nI t &&& 31)))
  let h4 := qI h3 19 (nI f).toNatClampNeg (h3.1 19 (nI f).toNatClampNeg + 1)
  qI h4 15 10 (h4.1 15 10 + 1)
theorem mph_fr {h : qH} {f t s : Nat} {hb sb : Bool} : Fr [15, 18, 19] h (mph h f t s hb sb) := ((((Fr.rf.I (by decide)).I (by decide)).I (by decide)).I (by decide)).I (by decide)
section QM5
variable {d : Nat} {h : qH} {K : qK} {S : gS}
theorem mph_rel {f t s : Nat} {hb sb : Bool} (hM : RMc h S) (hB : GB S) (hf : f < S 0 0) (ht : t < S 0 0) (hs : s < 4) (e1 : ghang S f t s = hb) (e2 : (gnew S t s && gking S t) = sb) : RMc (mph h f t s hb sb) (gpass S f t s) := by
  have hn := hB.1
  have ecf : (nI f).toNatClampNeg = f := nI_clamp (by omega)
  have ect : (nI t).toNatClampNeg = t := nI_clamp (by omega)
  obtain ⟨m1, m2, m3, m4, m5, m6, m7, m8, m9⟩ := hM
  have z18 : ∀ p, (mph h f t s hb sb).1 18 p = if p = t then h.1 18 t ||| (1 <<< (nI s &&& 31)) else h.1 18 p := fun p => by
    simp [mph, qI_get, ect]
  have z19 : ∀ p, (mph h f t s hb sb).1 19 p = if p = f then h.1 19 f + 1 else h.1 19 p := fun p => by
    simp [mph, qI_get, ecf]
  have z1 : (mph h f t s hb sb).1 15 1 = h.1 15 1 := by simp [mph, qI_get]
  have z7 : (mph h f t s hb sb).1 15 7 = h.1 15 7 := by simp [mph, qI_get]
  have z8 : (mph h f t s hb sb).1 15 8 = h.1 15 8 ||| mor hb (1 <<< (nI f &&& 31)) := by simp [mph, qI_get]
  have z9 : (mph h f t s hb sb).1 15 9 = h.1 15 9 ||| mor sb (1 <<< (nI t &&& 31)) := by simp [mph, qI_get]
  have z10 : (mph h f t s hb sb).1 15 10 = h.1 15 10 + 1 := by simp [mph, qI_get]
  have z11 : (mph h f t s hb sb).1 15 11 = h.1 15 11 := by simp [mph, qI_get]
  have zf : ∀ a, a ≠ 15 → a ≠ 18 → a ≠ 19 → (mph h f t s hb sb).1 a = h.1 a := fun a h1 h2 h3 => mph_fr.1 a (by simp [h1, h2, h3])
  have or0 : ∀ x, x < 16 → nI x ||| (0 : Int32) = nI x := by decide +kernel
  have go : ∀ a, a < 4 ∨ 7 ≤ a → gpass S f t s a = S a := fun a ha => by
    funext y
    unfold gpass
    rw [if_neg (by omega), if_neg (by omega), if_neg (by omega), if_neg (by omega), if_neg (by omega)]
  have g4 : ∀ p, gpass S f t s 4 p = if p = t then S 4 t ||| 1 <<< s else S 4 p := fun p => by
    unfold gpass
    by_cases e : p = t
    · rw [if_pos ⟨rfl, e⟩, if_pos e]
    · rw [if_neg (fun z => e z.2), if_neg (by omega), if_neg (by omega), if_neg (by omega), if_neg (by omega), if_neg e]
  have g6 : ∀ p, gpass S f t s 6 p = if p = f then S 6 f + 1 else S 6 p := fun p => by
    unfold gpass
    rw [if_neg (by omega), if_neg (by omega), if_neg (by omega), if_neg (by omega)]
    by_cases e : p = f
    · rw [if_pos ⟨rfl, e⟩, if_pos e]
    · rw [if_neg (fun z => e z.2), if_neg e]
  have g52 : gpass S f t s 5 2 = S 5 2 := by
    unfold gpass
    rw [if_neg (by omega), if_neg (by omega), if_neg (by omega), if_neg (by omega), if_neg (by omega)]
  have g54 : gpass S f t s 5 4 = S 5 4 := by
    unfold gpass
    rw [if_neg (by omega), if_neg (by omega), if_neg (by omega), if_neg (by omega), if_neg (by omega)]
  have g53 : gpass S f t s 5 3 = S 5 3 + 1 := by
    unfold gpass
    rw [if_neg (by omega), if_neg (by omega), if_neg (by omega), if_pos ⟨rfl, rfl⟩]
  have g50 : gpass S f t s 5 0 = if hb then S 5 0 ||| 1 <<< f else S 5 0 := by
    unfold gpass
    rw [if_neg (by omega), if_pos ⟨rfl, rfl⟩, e1]
  have g51 : gpass S f t s 5 1 = if sb then S 5 1 ||| 1 <<< t else S 5 1 := by
    unfold gpass
    rw [if_neg (by omega), if_neg (by omega), if_pos ⟨rfl, rfl⟩, e2]
  unfold RMc
  rw [z1, z7, z8, z9, z10, z11, zf 16 (by decide) (by decide) (by decide), zf 17 (by decide) (by decide) (by decide), zf 20 (by decide) (by decide) (by decide), zf 21 (by decide) (by decide) (by decide), zf 22 (by decide) (by decide) (by decide), zf 23 (by decide) (by decide) (by decide), go 0 (by omega), go 1 (by omega), go 2 (by omega), go 3 (by omega), go 7 (by omega), go 8 (by omega), go 9 (by omega), g52, g54, g53, g50, g51, m1, m4, m5, m6, m7, m8]
  refine ⟨rfl, fun p hp => ⟨(m2 p hp).1, (m2 p hp).2.1, ?_, ?_⟩, m3, rfl, ?_, ?_, nI_1 _, rfl, m9⟩
  · rw [z18, g4]
    by_cases e : p = t
    · rw [if_pos e, if_pos e, (m2 t ht).2.2.1, bit_or _ (hB.2.1 t ht).2.2 s hs]
    · rw [if_neg e, if_neg e]
      exact (m2 p hp).2.2.1
  · rw [z19, g6]
    by_cases e : p = f
    · rw [if_pos e, if_pos e, (m2 f hf).2.2.2]
      exact nI_1 _
    · rw [if_neg e, if_neg e]
      exact (m2 p hp).2.2.2
  · cases hb
    · exact or0 _ hB.2.2.2.1
    · exact bit_or _ hB.2.2.2.1 f (by omega)
  · cases sb
    · exact or0 _ hB.2.2.2.2.1
    · exact bit_or _ hB.2.2.2.2.1 t (by omega)
theorem RMc.kn {t s : Nat} (hM : RMc h S) (hB : GB S) (ht : t < S 0 0) (hs : s < 4) : RMc (qI h 18 t (h.1 18 t ||| (1 <<< (nI s &&& 31)))) (sS S 4 t (S 4 t ||| 1 <<< s)) := by
  obtain ⟨m1, m2, m3, m4, m5, m6, m7, m8, m9⟩ := hM
  have e : ∀ a, a ≠ 18 → (qI h 18 t (h.1 18 t ||| (1 <<< (nI s &&& 31)))).1 a = h.1 a := fun a ha => qI_ne ha
  have g : ∀ a, a ≠ 4 → sS S 4 t (S 4 t ||| 1 <<< s) a = S a := fun a ha => sS_ne ha
  unfold RMc
  rw [e 15 (by decide), e 16 (by decide), e 17 (by decide), e 19 (by decide), e 20 (by decide), e 21 (by decide), e 22 (by decide), e 23 (by decide), g 0 (by decide), g 1 (by decide), g 2 (by decide), g 3 (by decide), g 5 (by decide), g 6 (by decide), g 7 (by decide), g 8 (by decide), g 9 (by decide)]
  refine ⟨m1, fun p hp => ⟨(m2 p hp).1, (m2 p hp).2.1, ?_, (m2 p hp).2.2.2⟩, m3, m4, m5, m6, m7, m8, m9⟩
  rw [qI_get]
  by_cases z : p = t
  · rw [if_pos ⟨rfl, z⟩, z, sS_eq, (m2 t ht).2.2.1, bit_or _ (hB.2.1 t ht).2.2 s hs]
  · rw [if_neg (fun w => z w.2), sS_nb z]
    exact (m2 p hp).2.2.1
theorem GB.kn {t s : Nat} (hB : GB S) (ht : t < S 0 0) (hs : s < 4) : GB (sS S 4 t (S 4 t ||| 1 <<< s)) := by
  have g : ∀ a, a ≠ 4 → sS S 4 t (S 4 t ||| 1 <<< s) a = S a := fun a ha => sS_ne ha
  unfold GB
  rw [g 0 (by decide), g 1 (by decide), g 2 (by decide), g 3 (by decide), g 5 (by decide)]
  refine ⟨hB.1, fun p hp => ⟨(hB.2.1 p hp).1, (hB.2.1 p hp).2.1, ?_⟩, hB.2.2⟩
  by_cases z : p = t
  · rw [z, sS_eq]
    exact bit_or_lt _ (hB.2.1 t ht).2.2 s hs
  · rw [sS_nb z]
    exact (hB.2.1 p hp).2.2
theorem ginf_kn {t s p x : Nat} : ginf (sS S 4 t (S 4 t ||| 1 <<< s)) p x = ginf S p x := by
  unfold ginf gtog
  rw [show sS S 4 t (S 4 t ||| 1 <<< s) 1 = S 1 from sS_ne (by decide), show sS S 4 t (S 4 t ||| 1 <<< s) 2 = S 2 from sS_ne (by decide), show sS S 4 t (S 4 t ||| 1 <<< s) 3 = S 3 from sS_ne (by decide)]
theorem gking_kn {t s p : Nat} : gking (sS S 4 t (S 4 t ||| 1 <<< s)) p = gking S p := by
  unfold gking
  rw [show sS S 4 t (S 4 t ||| 1 <<< s) 1 = S 1 from sS_ne (by decide)]
theorem m_say {f t s : Nat} (hM : RMc h S) (hB : GB S) (hf : f < S 0 0) (ht : t < S 0 0) (hs : s < 4) (hk : ∀ h', Fr [15, 18, 19] h h' → (∀ k, k ≠ 8 → k ≠ 9 → k ≠ 10 → h'.1 15 k = h.1 15 k) → RMc h' (gpass S f t s) → K (some (.int (nI (gpassA S f t s)))) h') : qCall (d + 5) 98 [.ref 15, .int (nI f), .int (nI t), .int (nI s)] h K := by
  have hn := hB.1
  have ect : (nI t).toNatClampNeg = t := nI_clamp (by omega)
  have hM1 := hM.kn hB ht hs
  have hB1 := hB.kn ht hs
  have ht1 : t < sS S 4 t (S 4 t ||| 1 <<< s) 0 0 := by rw [sS_ne (by decide)]; exact ht
  have e41 : ginf (sS S 4 t (S 4 t ||| 1 <<< s)) t (sS S 4 t (S 4 t ||| 1 <<< s) 4 t) = ginf S t (S 4 t ||| 1 <<< s) := by rw [ginf_kn, sS_eq]
  have e15 : ∀ hb sb k, k ≠ 8 → k ≠ 9 → k ≠ 10 → (mph h f t s hb sb).1 15 k = h.1 15 k := fun hb sb k h8 h9 h10 => by simp [mph, qI_get, h8, h9, h10]
  refine call_wp (n := 160) (cut := []) _ (by decide) (Nat.lt_succ_self _) rfl rfl (Nat.le_of_ble_eq_true rfl) rfl ?_
  refine m_isHanging hM hB hf ht hs (fun b1 => ?_) (fun b1 => ?_)
  · refine m_infers hM hB ht (fun b2 => ?_) (fun b2 => ?_)
    · refine And.intro (vp_in_nI (by omega) (by decide)) ?_
      refine And.intro (vp_in_nI (by omega) (by decide)) ?_
      show qCall _ 90 [.ref 15, .int (nI t)] (qI h 18 (nI t).toNatClampNeg (h.1 18 (nI t).toNatClampNeg ||| (1 <<< (nI s &&& 31)))) _
      have hM2 : RMc (qI h 18 (nI t).toNatClampNeg (h.1 18 (nI t).toNatClampNeg ||| (1 <<< (nI s &&& 31)))) (sS S 4 t (S 4 t ||| 1 <<< s)) := by rw [ect]; exact hM1
      refine m_infers hM2 hB1 ht1 (fun b3 => ?_) (fun b3 => ?_)
      · rw [e41] at b3
        have en : gnew S t s = false := by simp [gnew, b2, b3]
        refine And.intro (fun c => absurd c (by decide)) (fun _ => ?_)
        refine And.intro (fun c => absurd c (by decide)) (fun _ => ?_)
        refine And.intro (fun _ => ?_) (fun c => absurd rfl c)
        refine And.intro (fun c => absurd c (by decide)) (fun _ => ?_)
        refine And.intro (fun _ => ?_) (fun c => absurd rfl c)
        refine And.intro (vp_in_nI (by omega) (by decide)) ?_
        refine And.intro (vp_in_nI (by omega) (by decide)) ?_
        refine And.intro (fun _ => ?_) (fun c => absurd rfl c)
        refine And.intro (fun c => absurd c (by decide)) (fun _ => ?_)
        refine And.intro (fun _ => ?_) (fun c => absurd rfl c)
        show K (some (.int _)) (mph h f t s true false)
        exact kI (hk _ mph_fr (e15 _ _) (mph_rel (hb := true) (sb := false) hM hB hf ht hs b1 (by rw [en]; rfl))) (by unfold gpassA; rw [b1, en]; rfl)
      · rw [e41] at b3
        have en : gnew S t s = false := by simp [gnew, b2, b3]
        refine And.intro (fun _ => ?_) (fun c => absurd rfl c)
        refine And.intro (fun _ => ?_) (fun c => absurd rfl c)
        refine And.intro (fun c => absurd c (by decide)) (fun _ => ?_)
        refine And.intro (fun _ => ?_) (fun c => absurd rfl c)
        refine And.intro (vp_in_nI (by omega) (by decide)) ?_
        refine And.intro (vp_in_nI (by omega) (by decide)) ?_
        refine And.intro (fun _ => ?_) (fun c => absurd rfl c)
        refine And.intro (fun c => absurd c (by decide)) (fun _ => ?_)
        refine And.intro (fun _ => ?_) (fun c => absurd rfl c)
        show K (some (.int _)) (mph h f t s true false)
        exact kI (hk _ mph_fr (e15 _ _) (mph_rel (hb := true) (sb := false) hM hB hf ht hs b1 (by rw [en]; rfl))) (by unfold gpassA; rw [b1, en]; rfl)
    · refine And.intro (vp_in_nI (by omega) (by decide)) ?_
      refine And.intro (vp_in_nI (by omega) (by decide)) ?_
      show qCall _ 90 [.ref 15, .int (nI t)] (qI h 18 (nI t).toNatClampNeg (h.1 18 (nI t).toNatClampNeg ||| (1 <<< (nI s &&& 31)))) _
      have hM2 : RMc (qI h 18 (nI t).toNatClampNeg (h.1 18 (nI t).toNatClampNeg ||| (1 <<< (nI s &&& 31)))) (sS S 4 t (S 4 t ||| 1 <<< s)) := by rw [ect]; exact hM1
      refine m_infers hM2 hB1 ht1 (fun b3 => ?_) (fun b3 => ?_)
      · rw [e41] at b3
        have en : gnew S t s = true := by simp [gnew, b2, b3]
        refine And.intro (fun c => absurd c (by decide)) (fun _ => ?_)
        refine And.intro (fun _ => ?_) (fun c => absurd rfl c)
        refine And.intro (fun c => absurd c (by decide)) (fun _ => ?_)
        refine m_isKing hM2 hB1 ht1 (fun bk => ?_) (fun bk => ?_)
        · rw [gking_kn] at bk
          refine And.intro (fun c => absurd c (by decide)) (fun _ => ?_)
          refine And.intro (fun c => absurd c (by decide)) (fun _ => ?_)
          refine And.intro (fun c => absurd c (by decide)) (fun _ => ?_)
          refine And.intro (vp_in_nI (by omega) (by decide)) ?_
          refine And.intro (vp_in_nI (by omega) (by decide)) ?_
          refine And.intro (fun c => absurd c (by decide)) (fun _ => ?_)
          refine And.intro (fun c => absurd c (by decide)) (fun _ => ?_)
          refine And.intro (fun c => absurd c (by decide)) (fun _ => ?_)
          show K (some (.int _)) (mph h f t s true true)
          exact kI (hk _ mph_fr (e15 _ _) (mph_rel (hb := true) (sb := true) hM hB hf ht hs b1 (by rw [en, bk]; rfl))) (by unfold gpassA; rw [b1, en, bk]; rfl)
        · rw [gking_kn] at bk
          refine And.intro (fun _ => ?_) (fun c => absurd rfl c)
          refine And.intro (fun c => absurd c (by decide)) (fun _ => ?_)
          refine And.intro (fun _ => ?_) (fun c => absurd rfl c)
          refine And.intro (vp_in_nI (by omega) (by decide)) ?_
          refine And.intro (vp_in_nI (by omega) (by decide)) ?_
          refine And.intro (fun c => absurd c (by decide)) (fun _ => ?_)
          refine And.intro (fun c => absurd c (by decide)) (fun _ => ?_)
          refine And.intro (fun _ => ?_) (fun c => absurd rfl c)
          show K (some (.int _)) (mph h f t s true false)
          exact kI (hk _ mph_fr (e15 _ _) (mph_rel (hb := true) (sb := false) hM hB hf ht hs b1 (by rw [en, bk]; rfl))) (by unfold gpassA; rw [b1, en, bk]; rfl)
      · rw [e41] at b3
        have en : gnew S t s = false := by simp [gnew, b2, b3]
        refine And.intro (fun _ => ?_) (fun c => absurd rfl c)
        refine And.intro (fun _ => ?_) (fun c => absurd rfl c)
        refine And.intro (fun c => absurd c (by decide)) (fun _ => ?_)
        refine And.intro (fun _ => ?_) (fun c => absurd rfl c)
        refine And.intro (vp_in_nI (by omega) (by decide)) ?_
        refine And.intro (vp_in_nI (by omega) (by decide)) ?_
        refine And.intro (fun _ => ?_) (fun c => absurd rfl c)
        refine And.intro (fun c => absurd c (by decide)) (fun _ => ?_)
        refine And.intro (fun _ => ?_) (fun c => absurd rfl c)
        show K (some (.int _)) (mph h f t s true false)
        exact kI (hk _ mph_fr (e15 _ _) (mph_rel (hb := true) (sb := false) hM hB hf ht hs b1 (by rw [en]; rfl))) (by unfold gpassA; rw [b1, en]; rfl)
  · refine m_infers hM hB ht (fun b2 => ?_) (fun b2 => ?_)
    · refine And.intro (vp_in_nI (by omega) (by decide)) ?_
      refine And.intro (vp_in_nI (by omega) (by decide)) ?_
      show qCall _ 90 [.ref 15, .int (nI t)] (qI h 18 (nI t).toNatClampNeg (h.1 18 (nI t).toNatClampNeg ||| (1 <<< (nI s &&& 31)))) _
      have hM2 : RMc (qI h 18 (nI t).toNatClampNeg (h.1 18 (nI t).toNatClampNeg ||| (1 <<< (nI s &&& 31)))) (sS S 4 t (S 4 t ||| 1 <<< s)) := by rw [ect]; exact hM1
      refine m_infers hM2 hB1 ht1 (fun b3 => ?_) (fun b3 => ?_)
      · rw [e41] at b3
        have en : gnew S t s = false := by simp [gnew, b2, b3]
        refine And.intro (fun c => absurd c (by decide)) (fun _ => ?_)
        refine And.intro (fun c => absurd c (by decide)) (fun _ => ?_)
        refine And.intro (fun _ => ?_) (fun c => absurd rfl c)
        refine And.intro (fun _ => ?_) (fun c => absurd rfl c)
        refine And.intro (fun _ => ?_) (fun c => absurd rfl c)
        refine And.intro (vp_in_nI (by omega) (by decide)) ?_
        refine And.intro (vp_in_nI (by omega) (by decide)) ?_
        refine And.intro (fun _ => ?_) (fun c => absurd rfl c)
        refine And.intro (fun _ => ?_) (fun c => absurd rfl c)
        refine And.intro (fun _ => ?_) (fun c => absurd rfl c)
        show K (some (.int _)) (mph h f t s false false)
        exact kI (hk _ mph_fr (e15 _ _) (mph_rel (hb := false) (sb := false) hM hB hf ht hs b1 (by rw [en]; rfl))) (by unfold gpassA; rw [b1, en]; rfl)
      · rw [e41] at b3
        have en : gnew S t s = false := by simp [gnew, b2, b3]
        refine And.intro (fun _ => ?_) (fun c => absurd rfl c)
        refine And.intro (fun _ => ?_) (fun c => absurd rfl c)
        refine And.intro (fun _ => ?_) (fun c => absurd rfl c)
        refine And.intro (fun _ => ?_) (fun c => absurd rfl c)
        refine And.intro (vp_in_nI (by omega) (by decide)) ?_
        refine And.intro (vp_in_nI (by omega) (by decide)) ?_
        refine And.intro (fun _ => ?_) (fun c => absurd rfl c)
        refine And.intro (fun _ => ?_) (fun c => absurd rfl c)
        refine And.intro (fun _ => ?_) (fun c => absurd rfl c)
        show K (some (.int _)) (mph h f t s false false)
        exact kI (hk _ mph_fr (e15 _ _) (mph_rel (hb := false) (sb := false) hM hB hf ht hs b1 (by rw [en]; rfl))) (by unfold gpassA; rw [b1, en]; rfl)
    · refine And.intro (vp_in_nI (by omega) (by decide)) ?_
      refine And.intro (vp_in_nI (by omega) (by decide)) ?_
      show qCall _ 90 [.ref 15, .int (nI t)] (qI h 18 (nI t).toNatClampNeg (h.1 18 (nI t).toNatClampNeg ||| (1 <<< (nI s &&& 31)))) _
      have hM2 : RMc (qI h 18 (nI t).toNatClampNeg (h.1 18 (nI t).toNatClampNeg ||| (1 <<< (nI s &&& 31)))) (sS S 4 t (S 4 t ||| 1 <<< s)) := by rw [ect]; exact hM1
      refine m_infers hM2 hB1 ht1 (fun b3 => ?_) (fun b3 => ?_)
      · rw [e41] at b3
        have en : gnew S t s = true := by simp [gnew, b2, b3]
        refine And.intro (fun c => absurd c (by decide)) (fun _ => ?_)
        refine And.intro (fun _ => ?_) (fun c => absurd rfl c)
        refine And.intro (fun c => absurd c (by decide)) (fun _ => ?_)
        refine m_isKing hM2 hB1 ht1 (fun bk => ?_) (fun bk => ?_)
        · rw [gking_kn] at bk
          refine And.intro (fun c => absurd c (by decide)) (fun _ => ?_)
          refine And.intro (fun _ => ?_) (fun c => absurd rfl c)
          refine And.intro (fun c => absurd c (by decide)) (fun _ => ?_)
          refine And.intro (vp_in_nI (by omega) (by decide)) ?_
          refine And.intro (vp_in_nI (by omega) (by decide)) ?_
          refine And.intro (fun c => absurd c (by decide)) (fun _ => ?_)
          refine And.intro (fun _ => ?_) (fun c => absurd rfl c)
          refine And.intro (fun c => absurd c (by decide)) (fun _ => ?_)
          show K (some (.int _)) (mph h f t s false true)
          exact kI (hk _ mph_fr (e15 _ _) (mph_rel (hb := false) (sb := true) hM hB hf ht hs b1 (by rw [en, bk]; rfl))) (by unfold gpassA; rw [b1, en, bk]; rfl)
        · rw [gking_kn] at bk
          refine And.intro (fun _ => ?_) (fun c => absurd rfl c)
          refine And.intro (fun _ => ?_) (fun c => absurd rfl c)
          refine And.intro (fun _ => ?_) (fun c => absurd rfl c)
          refine And.intro (vp_in_nI (by omega) (by decide)) ?_
          refine And.intro (vp_in_nI (by omega) (by decide)) ?_
          refine And.intro (fun c => absurd c (by decide)) (fun _ => ?_)
          refine And.intro (fun _ => ?_) (fun c => absurd rfl c)
          refine And.intro (fun _ => ?_) (fun c => absurd rfl c)
          show K (some (.int _)) (mph h f t s false false)
          exact kI (hk _ mph_fr (e15 _ _) (mph_rel (hb := false) (sb := false) hM hB hf ht hs b1 (by rw [en, bk]; rfl))) (by unfold gpassA; rw [b1, en, bk]; rfl)
      · rw [e41] at b3
        have en : gnew S t s = false := by simp [gnew, b2, b3]
        refine And.intro (fun _ => ?_) (fun c => absurd rfl c)
        refine And.intro (fun _ => ?_) (fun c => absurd rfl c)
        refine And.intro (fun _ => ?_) (fun c => absurd rfl c)
        refine And.intro (fun _ => ?_) (fun c => absurd rfl c)
        refine And.intro (vp_in_nI (by omega) (by decide)) ?_
        refine And.intro (vp_in_nI (by omega) (by decide)) ?_
        refine And.intro (fun _ => ?_) (fun c => absurd rfl c)
        refine And.intro (fun _ => ?_) (fun c => absurd rfl c)
        refine And.intro (fun _ => ?_) (fun c => absurd rfl c)
        show K (some (.int _)) (mph h f t s false false)
        exact kI (hk _ mph_fr (e15 _ _) (mph_rel (hb := false) (sb := false) hM hB hf ht hs b1 (by rw [en]; rfl))) (by unfold gpassA; rw [b1, en]; rfl)
theorem m_tell {f t s : Int32} (hM : RM h S) (hG : RG S) (hk : ∀ h', Fr lM h h' → RM h' (uTell S f t s) → K (some (.int (aTell S f t s))) h') : qCall (d + 6) 99 [.ref 15, .int f, .int t, .int s] h K := by
  have hB := hG.1
  have hn0 := hB.1
  unfold aTell uTell at hk
  rw [iTell_pair] at hk
  refine call_wp (n := 60) (cut := []) _ (by decide) (Nat.lt_succ_self _) rfl rfl (Nat.le_of_ble_eq_true rfl) rfl ?_
  refine m_isOne hM.1 hB (fun p hp ep => ?_) (fun hp => ?_)
  · subst ep
    refine And.intro (fun c => absurd c (by decide)) (fun _ => ?_)
    refine m_isOne hM.1 hB (fun q hq eq => ?_) (fun hq => ?_)
    · subst eq
      refine And.intro (fun c => absurd c (by decide)) (fun _ => ?_)
      refine And.intro (fun c1 => ?_) (fun c1 => ?_)
      · have c1 := (nI_eq (by omega) (by omega)).mp c1
        rw [iPair_none hB (fun p' q' hp' hq' hne e1 e2 => by
          rw [nI_eq (by omega) (by omega)] at e1 e2
          omega)] at hk
        exact hk h Fr.rf hM
      · have c1 : ¬ p = q := fun z => c1 (by rw [z])
        rw [iPair_some hB hp hq c1] at hk
        refine m_isSign hM.1 hB (fun n hn h0 es => ?_) (fun hs => ?_)
        · subst es
          rw [isg_some h0 hn] at hk
          dsimp only at hk
          refine And.intro (fun c => absurd c (by decide)) (fun _ => ?_)
          refine m_canTell hM.1 hB hp hq hn (fun b1 => ?_) (fun b1 => ?_)
          · refine And.intro (fun c => absurd c (by decide)) (fun _ => ?_)
            rw [if_pos b1, if_pos b1] at hk
            refine m_say hM.1 hB hp hq hn (fun h' hf h15 hR => ?_)
            exact hk h' (hf.mono (by decide)) (hM.scene (fun k h1 h2 => h15 k (by omega) (by omega) (by omega)) (fun a ha => hf.1 a (by simp; omega)) hR (fun a ha => by
              funext y
              unfold gpass
              rw [if_neg (by omega), if_neg (by omega), if_neg (by omega), if_neg (by omega), if_neg (by omega)]))
          · refine And.intro (fun _ => ?_) (fun c => absurd rfl c)
            rw [if_neg (by rw [b1]; decide), if_neg (by rw [b1]; decide)] at hk
            exact hk h Fr.rf hM
        · rw [isg_none hs] at hk
          refine And.intro (fun _ => ?_) (fun c => absurd rfl c)
          exact hk h Fr.rf hM
    · refine And.intro (fun _ => ?_) (fun c => absurd rfl c)
      rw [iPair_none hB (fun p' q' hp' hq' hne e1 e2 => hq q' hq' e2)] at hk
      exact hk h Fr.rf hM
  · refine And.intro (fun _ => ?_) (fun c => absurd rfl c)
    rw [iPair_none hB (fun p' q' hp' hq' hne e1 e2 => hp p' hp' e1)] at hk
    exact hk h Fr.rf hM
end QM5
end
section
/-! ## the reference: letters, what is forbidden, questions -/
theorem byte_ok : ∀ j, j < 127 → vp_nar .byte ((nI j).toInt8.toInt32) = nI j := by decide +kernel
section QM6
variable {d : Nat} {h : qH} {K : qK} {S : gS}
theorem m_letter {c : Int32} (hM : RM h S) (hG : RG S) (hk : ∀ h', Fr lM h h' → RM h' (uLetter S c) → K (some (.int (aLetter S c))) h') : qCall (d + 2) 76 [.ref 15, .int c] h K := by
  have e := hM.2.2.1
  have hl := hG.2.2.2.2.2.1
  unfold aLetter uLetter at hk
  refine call_wp (n := 60) (cut := []) _ (by decide) (Nat.lt_succ_self _) rfl rfl (Nat.le_of_ble_eq_true rfl) rfl ?_
  refine m_within (lo := 32) (hi := 126) (by decide) (by decide) (fun j h1 h2 ej => ?_) (fun hj => ?_)
  · subst ej
    have hc : ¬ (nI j < 32 ∨ 126 < nI j) := fun z => z.elim (fun w => nI_nlt (b := 32) h1 (by omega) w) (fun w => nI_nlt (a := 126) h2 (by decide) w)
    simp only [if_neg hc] at hk
    refine And.intro (fun c => absurd c (by decide)) (fun _ => ?_)
    refine And.intro (fun c3 => ?_) (fun c3 => ?_)
    · have c3 : h.1 15 16 = nI 22 := c3
      rw [e, nI_eq (by omega) (by omega)] at c3
      have hc2 : 22 ≤ S 10 0 := by omega
      simp only [if_pos hc2] at hk
      exact hk h Fr.rf hM
    · have c3 : ¬ h.1 15 16 = nI 22 := c3
      rw [e, nI_eq (by omega) (by omega)] at c3
      have hc2 : ¬ 22 ≤ S 10 0 := by omega
      simp only [if_neg hc2] at hk
      have e1 : (nI (S 10 0)).toNatClampNeg = S 10 0 := nI_clamp (by omega)
      refine And.intro (by show vp_in (h.1 15 16) 22; rw [e]; exact vp_in_nI (by omega) (by decide)) ?_
      show K (some (.int ((qI (qI h 24 (h.1 15 16).toNatClampNeg (vp_nar .byte ((nI j).toInt8.toInt32))) 15 16 ((qI h 24 (h.1 15 16).toNatClampNeg (vp_nar .byte ((nI j).toInt8.toInt32))).1 15 16 + 1)).1 15 16))) (qI (qI h 24 (h.1 15 16).toNatClampNeg (vp_nar .byte ((nI j).toInt8.toInt32))) 15 16 ((qI h 24 (h.1 15 16).toNatClampNeg (vp_nar .byte ((nI j).toInt8.toInt32))).1 15 16 + 1))
      have e2 : (qI h 24 (h.1 15 16).toNatClampNeg (vp_nar .byte ((nI j).toInt8.toInt32))).1 15 16 = nI (S 10 0) := by rw [qI_get, if_neg (by omega)]; exact e
      rw [e2, byte_ok j (by omega), e, e1, nI_1, qI_get, if_pos ⟨rfl, rfl⟩]
      have hf : Fr [15, 24] h (qI (qI h 24 (S 10 0) (nI j)) 15 16 (nI (S 10 0 + 1))) := (Fr.rf.I (by decide)).I (by decide)
      refine hk _ (hf.mono (by decide)) ?_
      obtain ⟨x1, x2, x3, x4, x5, ⟨kf, kc, k1, k2, k3, k4, k5⟩, x7⟩ := hM
      have so : ∀ a, a ≠ 10 → a ≠ 11 → sS (sS S 11 (S 10 0) (nI j).toNatClampNeg) 10 0 (S 10 0 + 1) a = S a := fun a h1 h2 => by rw [sS_ne h1, sS_ne h2]
      have h15 : ∀ k, k ≠ 16 → (qI (qI h 24 (S 10 0) (nI j)) 15 16 (nI (S 10 0 + 1))).1 15 k = h.1 15 k := fun k hk => by rw [qI_get, if_neg (fun z => hk z.2), qI_get, if_neg (fun z => by omega)]
      have hs : ∀ a, a ≠ 15 → a ≠ 24 → (qI (qI h 24 (S 10 0) (nI j)) 15 16 (nI (S 10 0 + 1))).1 a = h.1 a := fun a h1 h2 => hf.1 a (by simp [h1, h2])
      unfold RM RMk
      rw [so 0 (by decide) (by decide), so 12 (by decide) (by decide), so 13 (by decide) (by decide), so 14 (by decide) (by decide), so 15 (by decide) (by decide), so 16 (by decide) (by decide), so 17 (by decide) (by decide), so 18 (by decide) (by decide), so 19 (by decide) (by decide), h15 15 (by decide), h15 0 (by decide), h15 22 (by decide), h15 23 (by decide), h15 24 (by decide), h15 25 (by decide), h15 26 (by decide), h15 27 (by decide), h15 28 (by decide), hs 26 (by decide) (by decide), hs 27 (by decide) (by decide), hs 28 (by decide) (by decide), hs 29 (by decide) (by decide), hs 30 (by decide) (by decide)]
      refine ⟨(x1.h (fun k hk => h15 k (by omega)) (fun a h1 h2 => hs a (by omega) (by omega))).S (fun a ha => so a (by omega) (by omega)), x2, ?_, fun i hi => ?_, x5, ⟨kf, kc, k1, k2, k3, k4, k5⟩, x7⟩
      · rw [sS_eq]
        rfl
      · rw [sS_eq] at hi
        rw [show sS (sS S 11 (S 10 0) (nI j).toNatClampNeg) 10 0 (S 10 0 + 1) 11 = sS S 11 (S 10 0) (nI j).toNatClampNeg 11 from sS_ne (by decide)]
        show (if 24 = 15 ∧ i = 16 then nI (S 10 0 + 1) else if 24 = 24 ∧ i = S 10 0 then nI j else h.1 24 i) = nI (if 11 = 11 ∧ i = S 10 0 then (nI j).toNatClampNeg else S 11 i)
        rw [if_neg (by omega)]
        by_cases ei : i = S 10 0
        · rw [if_pos ⟨rfl, ei⟩, if_pos ⟨rfl, ei⟩, nI_clamp (by omega)]
        · rw [if_neg (fun z => ei z.2), if_neg (fun z => ei z.2)]
          exact x4 i (by omega)
  · have hc : c < 32 ∨ 126 < c := by
      rcases Int32.lt_or_le c 32 with z | z
      · exact Or.inl z
      · rcases Int32.lt_or_le 126 c with w | w
        · exact Or.inr w
        · exfalso
          have h0 : ¬ c < 0 := Int32.not_lt.mpr (Int32.le_trans (by decide) z)
          obtain ⟨j, hj31, rfl⟩ := nI_of h0
          have z' : nI 32 ≤ nI j := z
          have w' : nI j ≤ nI 126 := w
          rw [nI_leI (by omega) (by omega)] at z' w'
          exact hj j z' w' rfl
    simp only [if_pos hc] at hk
    refine And.intro (fun _ => ?_) (fun c => absurd rfl c)
    exact hk h Fr.rf hM
theorem m_blank (hM : RM h S) (hk : ∀ h', Fr lM h h' → RM h' (sS S 10 0 0) → K (some (.int (nI (S 10 0)))) h') : qCall (d + 1) 77 [.ref 15] h K := by
  refine call_wp (n := 40) (cut := []) _ (by decide) (Nat.lt_succ_self _) rfl rfl (Nat.le_of_ble_eq_true rfl) rfl ?_
  have hf : Fr [15] h (qI h 15 16 0) := Fr.rf.I (by decide)
  have hk2 := hk (qI h 15 16 0) (hf.mono (by decide)) ?_
  · rw [← hM.2.2.1] at hk2
    exact hk2
  · obtain ⟨x1, x2, x3, x4, x5, ⟨kf, kc, k1, k2, k3, k4, k5⟩, x7⟩ := hM
    have so : ∀ a, a ≠ 10 → sS S 10 0 0 a = S a := fun a h1 => sS_ne h1
    have h15 : ∀ k, k ≠ 16 → (qI h 15 16 0).1 15 k = h.1 15 k := fun k hk => by rw [qI_get, if_neg (fun z => hk z.2)]
    have hs : ∀ a, a ≠ 15 → (qI h 15 16 0).1 a = h.1 a := fun a h1 => hf.1 a (by simp [h1])
    unfold RM RMk
    rw [so 0 (by decide), so 11 (by decide), so 12 (by decide), so 13 (by decide), so 14 (by decide), so 15 (by decide), so 16 (by decide), so 17 (by decide), so 18 (by decide), so 19 (by decide), h15 15 (by decide), h15 0 (by decide), h15 22 (by decide), h15 23 (by decide), h15 24 (by decide), h15 25 (by decide), h15 26 (by decide), h15 27 (by decide), h15 28 (by decide), hs 24 (by decide), hs 26 (by decide), hs 27 (by decide), hs 28 (by decide), hs 29 (by decide), hs 30 (by decide), sS_eq]
    exact ⟨(x1.h (fun k hk => h15 k (by omega)) (fun a h1 h2 => hs a (by omega))).S (fun a ha => so a (by omega)), x2, rfl, fun i hi => by omega, x5, ⟨kf, kc, k1, k2, k3, k4, k5⟩, x7⟩
theorem RMc.f5 {v j b : Nat} (hM : RMc h S) (hj : (j = 7 ∧ b = 2) ∨ (j = 11 ∧ b = 4 ∧ v = 0)) : RMc (qI h 15 j (nI v)) (sS S 5 b v) := by
  obtain ⟨m1, m2, m3, m4, m5, m6, m7, m8, m9⟩ := hM
  have so : ∀ a, a ≠ 5 → sS S 5 b v a = S a := fun a h1 => sS_ne h1
  have hs : ∀ a, a ≠ 15 → (qI h 15 j (nI v)).1 a = h.1 a := fun a h1 => qI_ne h1
  have h15 : ∀ k, k ≠ j → (qI h 15 j (nI v)).1 15 k = h.1 15 k := fun k hk => by rw [qI_get, if_neg (fun z => hk z.2)]
  have s5 : ∀ y, y ≠ b → sS S 5 b v 5 y = S 5 y := fun y hy => sS_nb hy
  have ej : (qI h 15 j (nI v)).1 15 j = nI v := by rw [qI_get, if_pos ⟨rfl, rfl⟩]
  have es : sS S 5 b v 5 b = v := sS_eq
  unfold RMc
  rw [so 0 (by decide), so 1 (by decide), so 2 (by decide), so 3 (by decide), so 4 (by decide), so 6 (by decide), so 7 (by decide), so 8 (by decide), so 9 (by decide), hs 16 (by decide), hs 17 (by decide), hs 18 (by decide), hs 19 (by decide), hs 20 (by decide), hs 21 (by decide), hs 22 (by decide), hs 23 (by decide)]
  rcases hj with ⟨rfl, rfl⟩ | ⟨rfl, rfl, rfl⟩
  · rw [h15 1 (by decide), h15 8 (by decide), h15 9 (by decide), h15 10 (by decide), h15 11 (by decide), s5 0 (by decide), s5 1 (by decide), s5 3 (by decide), s5 4 (by decide), ej, es]
    exact ⟨m1, m2, m3, rfl, m5, m6, m7, m8, m9⟩
  · rw [h15 1 (by decide), h15 7 (by decide), h15 8 (by decide), h15 9 (by decide), h15 10 (by decide), s5 0 (by decide), s5 1 (by decide), s5 2 (by decide), s5 3 (by decide), ej, es]
    exact ⟨m1, m2, m3, m4, m5, m6, m7, rfl, fun i hi => by omega⟩
theorem m_forbid {k : Int32} {is : Bool} (hM : RM h S) (hG : RG S) (hk : ∀ h', Fr lM h h' → RM h' (uForbid S k is) → K (some (.int (aForbid S k))) h') : qCall (d + 3) 95 [.ref 15, .int k, .int (b2 is)] h K := by
  have hB := hG.1
  have h52 := hB.2.2.2.2.2
  have e7 := hM.1.2.2.2.1
  unfold aForbid uForbid at hk
  refine call_wp (n := 60) (cut := []) _ (by decide) (Nat.lt_succ_self _) rfl rfl (Nat.le_of_ble_eq_true rfl) rfl ?_
  refine m_isSign hM.1 hB (fun n hn h0 ep => ?_) (fun hp => ?_)
  · subst ep
    rw [isg_some h0 hn] at hk
    dsimp only at hk
    refine And.intro (fun c => absurd c (by decide)) (fun _ => ?_)
    have hf : Fr [15] h (qI h 15 7 (nI (gfb S n is))) := Fr.rf.I (by decide)
    have hk2 := hk (qI h 15 7 (nI (gfb S n is))) (hf.mono (by decide)) (hM.scene (fun k h1 h2 => by rw [qI_get, if_neg (by omega)]) (fun a ha => hf.1 a (by simp; omega)) (hM.1.f5 (Or.inl ⟨rfl, rfl⟩)) (fun a ha => sS_ne (by omega)))
    rw [← bit_val _ h52 n hn, ← e7] at hk2
    cases is
    · refine And.intro (fun _ => ?_) (fun c => absurd rfl c)
      have e2 : nI (gfb S n false) = h.1 15 7 &&& ((1 : Int32) <<< (nI n &&& 31) ^^^ (-1)) := by rw [e7, bit_clr _ h52 n hn]; rfl
      rw [e2] at hk2
      exact hk2
    · refine And.intro (fun c => absurd c (by decide)) (fun _ => ?_)
      have e2 : nI (gfb S n true) = h.1 15 7 ||| ((1 : Int32) <<< (nI n &&& 31)) := by rw [e7, bit_or _ h52 n hn]; rfl
      rw [e2] at hk2
      exact hk2
  · rw [isg_none hp] at hk
    refine And.intro (fun _ => ?_) (fun c => absurd rfl c)
    exact hk h Fr.rf hM
theorem m_forget (hM : RM h S) (hk : ∀ h', Fr lM h h' → RM h' (sS S 5 4 0) → K (some (.int (nI (S 5 4)))) h') : qCall (d + 1) 110 [.ref 15] h K := by
  refine call_wp (n := 40) (cut := []) _ (by decide) (Nat.lt_succ_self _) rfl rfl (Nat.le_of_ble_eq_true rfl) rfl ?_
  have hf : Fr [15] h (qI h 15 11 (nI 0)) := Fr.rf.I (by decide)
  have hk2 := hk (qI h 15 11 (nI 0)) (hf.mono (by decide)) (hM.scene (fun k h1 h2 => by rw [qI_get, if_neg (by omega)]) (fun a ha => hf.1 a (by simp; omega)) (hM.1.f5 (Or.inr ⟨rfl, rfl, rfl⟩)) (fun a ha => sS_ne (by omega)))
  rw [← hM.1.2.2.2.2.2.2.2.1] at hk2
  exact hk2
def maH (h : qH) (n p g b : Nat) : qH := qI (qI (qI (qI h 21 n (nI p)) 22 n (nI g)) 23 n (nI b)) 15 11 (nI (n + 1))
theorem maH_rel {p g b : Nat} (hM : RMc h S) : RMc (maH h (S 5 4) p g b) (gask S p g b) := by
  obtain ⟨m1, m2, m3, m4, m5, m6, m7, m8, m9⟩ := hM
  have hs : ∀ a, a ≠ 15 → a ≠ 21 → a ≠ 22 → a ≠ 23 → (maH h (S 5 4) p g b).1 a = h.1 a := fun a h1 h2 h3 h4 => by
    unfold maH
    rw [qI_ne h1, qI_ne h4, qI_ne h3, qI_ne h2]
  have h15 : ∀ k, k ≠ 11 → (maH h (S 5 4) p g b).1 15 k = h.1 15 k := fun k hk => by simp [maH, qI_get, hk]
  have z11 : (maH h (S 5 4) p g b).1 15 11 = nI (S 5 4 + 1) := by simp [maH, qI_get]
  have z21 : ∀ i, (maH h (S 5 4) p g b).1 21 i = if i = S 5 4 then nI p else h.1 21 i := fun i => by simp [maH, qI_get]
  have z22 : ∀ i, (maH h (S 5 4) p g b).1 22 i = if i = S 5 4 then nI g else h.1 22 i := fun i => by simp [maH, qI_get]
  have z23 : ∀ i, (maH h (S 5 4) p g b).1 23 i = if i = S 5 4 then nI b else h.1 23 i := fun i => by simp [maH, qI_get]
  have g0 : ∀ a, a < 5 ∨ a = 6 → gask S p g b a = S a := fun a ha => by unfold gask; rw [sS_ne (by omega), sS_ne (by omega), sS_ne (by omega), sS_ne (by omega)]
  have g5 : ∀ y, y ≠ 4 → gask S p g b 5 y = S 5 y := fun y hy => by unfold gask; rw [sS_nb hy, sS_ne (by omega), sS_ne (by omega), sS_ne (by omega)]
  have g54 : gask S p g b 5 4 = S 5 4 + 1 := sS_eq
  have g7 : ∀ i, gask S p g b 7 i = if i = S 5 4 then p else S 7 i := fun i => by
    unfold gask
    rw [sS_ne (by omega), sS_ne (by omega), sS_ne (by omega)]
    by_cases z : i = S 5 4
    · rw [if_pos z, z, sS_eq]
    · rw [if_neg z, sS_nb z]
  have g8 : ∀ i, gask S p g b 8 i = if i = S 5 4 then g else S 8 i := fun i => by
    unfold gask
    rw [sS_ne (by omega), sS_ne (by omega)]
    by_cases z : i = S 5 4
    · rw [if_pos z, z, sS_eq]
    · rw [if_neg z, sS_nb z, sS_ne (by omega)]
  have g9 : ∀ i, gask S p g b 9 i = if i = S 5 4 then b else S 9 i := fun i => by
    unfold gask
    rw [sS_ne (by omega)]
    by_cases z : i = S 5 4
    · rw [if_pos z, z, sS_eq]
    · rw [if_neg z, sS_nb z, sS_ne (by omega), sS_ne (by omega)]
  unfold RMc
  rw [g0 0 (by omega), g0 1 (by omega), g0 2 (by omega), g0 3 (by omega), g0 4 (by omega), g0 6 (by omega), g5 0 (by decide), g5 1 (by decide), g5 2 (by decide), g5 3 (by decide), g54, h15 1 (by decide), h15 7 (by decide), h15 8 (by decide), h15 9 (by decide), h15 10 (by decide), z11, hs 16 (by decide) (by decide) (by decide) (by decide), hs 17 (by decide) (by decide) (by decide) (by decide), hs 18 (by decide) (by decide) (by decide) (by decide), hs 19 (by decide) (by decide) (by decide) (by decide), hs 20 (by decide) (by decide) (by decide) (by decide)]
  refine ⟨m1, m2, m3, m4, m5, m6, m7, rfl, fun i hi => ?_⟩
  rw [z21, z22, z23, g7, g8, g9]
  by_cases z : i = S 5 4
  · rw [if_pos z, if_pos z, if_pos z, if_pos z, if_pos z, if_pos z]
    exact ⟨rfl, rfl, rfl⟩
  · rw [if_neg z, if_neg z, if_neg z, if_neg z, if_neg z, if_neg z]
    exact m9 i (by omega)
theorem m_ask {p s : Int32} {so : Bool} (hM : RM h S) (hG : RG S) (hk : ∀ h', Fr lM h h' → RM h' (uAsk S p s so) → K (some (.int (aAsk S p s))) h') : qCall (d + 3) 109 [.ref 15, .int p, .int s, .int (b2 so)] h K := by
  have hB := hG.1
  have hn0 := hB.1
  have ha0 := hG.2.1.1
  have e := hM.1.2.2.2.2.2.2.2.1
  unfold aAsk uAsk at hk
  refine call_wp (n := 80) (cut := []) _ (by decide) (Nat.lt_succ_self _) rfl rfl (Nat.le_of_ble_eq_true rfl) rfl ?_
  refine m_isOne hM.1 hB (fun n hn ep => ?_) (fun hp => ?_)
  · subst ep
    rw [ip_some hB hn] at hk
    dsimp only at hk
    refine And.intro (fun c => absurd c (by decide)) (fun _ => ?_)
    refine m_within (lo := 0) (hi := 15) (by decide) (by decide) (fun q h1 h2 eq => ?_) (fun hj => ?_)
    · subst eq
      rw [ix_some (n := q) (by omega) (by decide)] at hk
      dsimp only at hk
      refine And.intro (fun c => absurd c (by decide)) (fun _ => ?_)
      refine And.intro (fun c3 => ?_) (fun c3 => ?_)
      · have c3 : h.1 15 11 = nI 6 := c3
        rw [e, nI_eq (by omega) (by omega)] at c3
        have hc2 : 6 ≤ S 5 4 := by omega
        simp only [if_pos hc2] at hk
        exact hk h Fr.rf hM
      · have c3 : ¬ h.1 15 11 = nI 6 := c3
        rw [e, nI_eq (by omega) (by omega)] at c3
        have hc2 : ¬ 6 ≤ S 5 4 := by omega
        simp only [if_neg hc2] at hk
        have ec : (nI (S 5 4)).toNatClampNeg = S 5 4 := nI_clamp (by omega)
        have hr : ∀ b : Nat, RM (maH h (S 5 4) n q b) (gask S n q b) := fun b => hM.scene (fun k h1 h2 => by
            have : k ≠ 11 := by omega
            simp [maH, qI_get, this]) (fun a ha => by unfold maH; rw [qI_ne (by omega), qI_ne (by omega), qI_ne (by omega), qI_ne (by omega)]) (maH_rel hM.1) (fun a ha => gask_o ha)
        have hfr : ∀ b : Nat, Fr lM h (maH h (S 5 4) n q b) := fun b => (((Fr.rf.I (by decide)).I (by decide)).I (by decide)).I (by decide)
        refine And.intro (by show vp_in (h.1 15 11) 6; rw [e]; exact vp_in_nI (by omega) (by decide)) ?_
        refine And.intro (by show vp_in ((qI h 21 (h.1 15 11).toNatClampNeg (nI n)).1 15 11) 6; rw [qI_get, if_neg (by omega), e]; exact vp_in_nI (by omega) (by decide)) ?_
        have e1 : (qI h 21 (S 5 4) (nI n)).1 15 11 = nI (S 5 4) := by rw [qI_get, if_neg (by omega)]; exact e
        have e2 : (qI (qI h 21 (S 5 4) (nI n)) 22 (S 5 4) (nI q)).1 15 11 = nI (S 5 4) := by rw [qI_get, if_neg (by omega)]; exact e1
        cases so
        · refine And.intro (fun _ => ?_) (fun c => absurd rfl c)
          refine And.intro (by show vp_in ((qI (qI h 21 (h.1 15 11).toNatClampNeg (nI n)) 22 ((qI h 21 (h.1 15 11).toNatClampNeg (nI n)).1 15 11).toNatClampNeg (nI q)).1 15 11) 6; rw [qI_get, if_neg (by omega), qI_get, if_neg (by omega), e]; exact vp_in_nI (by omega) (by decide)) ?_
          have hk2 := hk _ (hfr 0) (hr 0)
          have ex : maH h (S 5 4) n q 0 = qI (qI (qI (qI h 21 (h.1 15 11).toNatClampNeg (nI n)) 22 ((qI h 21 (h.1 15 11).toNatClampNeg (nI n)).1 15 11).toNatClampNeg (nI q)) 23 ((qI (qI h 21 (h.1 15 11).toNatClampNeg (nI n)) 22 ((qI h 21 (h.1 15 11).toNatClampNeg (nI n)).1 15 11).toNatClampNeg (nI q)).1 15 11).toNatClampNeg (nI 0)) 15 11 ((qI (qI (qI h 21 (h.1 15 11).toNatClampNeg (nI n)) 22 ((qI h 21 (h.1 15 11).toNatClampNeg (nI n)).1 15 11).toNatClampNeg (nI q)) 23 ((qI (qI h 21 (h.1 15 11).toNatClampNeg (nI n)) 22 ((qI h 21 (h.1 15 11).toNatClampNeg (nI n)).1 15 11).toNatClampNeg (nI q)).1 15 11).toNatClampNeg (nI 0)).1 15 11 + 1) := by
            rw [e, ec, e1, ec, e2, ec]
            rw [show (qI (qI (qI h 21 (S 5 4) (nI n)) 22 (S 5 4) (nI q)) 23 (S 5 4) (nI 0)).1 15 11 = nI (S 5 4) by rw [qI_get, if_neg (by omega)]; exact e2, nI_1]
            rfl
          have ea : nI (S 5 4 + 1) = (maH h (S 5 4) n q 0).1 15 11 := by simp [maH, qI_get]
          rw [ea, ex] at hk2
          exact hk2
        · refine And.intro (fun c => absurd c (by decide)) (fun _ => ?_)
          refine And.intro (by show vp_in ((qI (qI h 21 (h.1 15 11).toNatClampNeg (nI n)) 22 ((qI h 21 (h.1 15 11).toNatClampNeg (nI n)).1 15 11).toNatClampNeg (nI q)).1 15 11) 6; rw [qI_get, if_neg (by omega), qI_get, if_neg (by omega), e]; exact vp_in_nI (by omega) (by decide)) ?_
          have hk2 := hk _ (hfr 1) (hr 1)
          have ex : maH h (S 5 4) n q 1 = qI (qI (qI (qI h 21 (h.1 15 11).toNatClampNeg (nI n)) 22 ((qI h 21 (h.1 15 11).toNatClampNeg (nI n)).1 15 11).toNatClampNeg (nI q)) 23 ((qI (qI h 21 (h.1 15 11).toNatClampNeg (nI n)) 22 ((qI h 21 (h.1 15 11).toNatClampNeg (nI n)).1 15 11).toNatClampNeg (nI q)).1 15 11).toNatClampNeg (nI 1)) 15 11 ((qI (qI (qI h 21 (h.1 15 11).toNatClampNeg (nI n)) 22 ((qI h 21 (h.1 15 11).toNatClampNeg (nI n)).1 15 11).toNatClampNeg (nI q)) 23 ((qI (qI h 21 (h.1 15 11).toNatClampNeg (nI n)) 22 ((qI h 21 (h.1 15 11).toNatClampNeg (nI n)).1 15 11).toNatClampNeg (nI q)).1 15 11).toNatClampNeg (nI 1)).1 15 11 + 1) := by
            rw [e, ec, e1, ec, e2, ec]
            rw [show (qI (qI (qI h 21 (S 5 4) (nI n)) 22 (S 5 4) (nI q)) 23 (S 5 4) (nI 1)).1 15 11 = nI (S 5 4) by rw [qI_get, if_neg (by omega)]; exact e2, nI_1]
            rfl
          have ea : nI (S 5 4 + 1) = (maH h (S 5 4) n q 1).1 15 11 := by simp [maH, qI_get]
          rw [ea, ex] at hk2
          exact hk2
    · rw [show ix s 16 = none from ix_none (by decide) (fun j hj' => hj j (by omega) (by omega))] at hk
      refine And.intro (fun _ => ?_) (fun c => absurd rfl c)
      exact hk h Fr.rf hM
  · rw [ip_none hB hp] at hk
    refine And.intro (fun _ => ?_) (fun c => absurd rfl c)
    exact hk h Fr.rf hM
end QM6
end
section
/-! ## the reference: its image -/
section QM7
variable {d : Nat} {h : qH} {K : qK} {S : gS}
def mI_img (h h1 : qH) (n i : Nat) : Prop := Fr [26, 27, 28, 29, 30] h h1 ∧ (∀ p, p < n → h1.1 26 p = h.1 18 p ∧ h1.1 27 p = h.1 19 p) ∧ ∀ p, p < i → h1.1 28 p = h.1 21 p ∧ h1.1 29 p = h.1 22 p ∧ h1.1 30 p = h.1 23 p
theorem l_imgB (hk : ∀ h', mI_img h h' 4 6 → K (some (.int (h'.1 15 10))) h') : ∀ m n, n + m = 6 → ∀ h1, mI_img h h1 4 n → qAt (d, 121, some .int, q0, K) 57 [some (.ref 15), some (.int (nI n))] [] h1 := by
  intro m
  induction m with
  | zero =>
    intro n hn h1 hc
    have hn : n = 6 := by omega
    subst hn
    refine at_wp [] 12 (Nat.le_of_ble_eq_true rfl) rfl ?_
    refine And.intro (fun _ => ?_) (fun c => absurd (by decide) c)
    exact hk h1 hc
  | succ m ih =>
    intro n hn h1 hc
    have ec : (nI n).toNatClampNeg = n := nI_clamp (by omega)
    refine at_wp [57] 60 (Nat.le_of_ble_eq_true rfl) rfl ?_
    refine And.intro (fun c => absurd c (nI_ge (a := n) (b := 6) (by omega) (by decide))) (fun _ => ?_)
    refine And.intro (vp_in_nI (by omega) (by decide)) ?_
    refine And.intro (vp_in_nI (by omega) (by decide)) ?_
    refine And.intro (vp_in_nI (by omega) (by decide)) ?_
    refine And.intro (vp_in_nI (by omega) (by decide)) ?_
    refine And.intro (vp_in_nI (by omega) (by decide)) ?_
    refine And.intro (vp_in_nI (by omega) (by decide)) ?_
    obtain ⟨z1, z2, z3⟩ := hc
    have hc2 : mI_img h (qI (qI (qI h1 28 n (h1.1 21 n)) 29 n ((qI h1 28 n (h1.1 21 n)).1 22 n)) 30 n ((qI (qI h1 28 n (h1.1 21 n)) 29 n ((qI h1 28 n (h1.1 21 n)).1 22 n)).1 23 n)) 4 (n + 1) := by
      refine ⟨(((z1).I (by decide)).I (by decide)).I (by decide), fun p hp => ?_, fun p hp => ?_⟩
      · simp only [qI_get]
        have := z2 p hp
        simp [this]
      · have es : h1.1 21 = h.1 21 ∧ h1.1 22 = h.1 22 ∧ h1.1 23 = h.1 23 := ⟨z1.1 21 (by decide), z1.1 22 (by decide), z1.1 23 (by decide)⟩
        by_cases e : p = n
        · subst e
          simp [qI_get, es]
        · have := z3 p (by omega)
          simp [qI_get, e, this]
    have := ih (n + 1) (by omega) _ hc2
    rw [← nI_1] at this
    show qAt _ 57 [some (.ref 15), some (.int (nI n + 1))] [] (qI (qI (qI h1 28 (nI n).toNatClampNeg (h1.1 21 (nI n).toNatClampNeg)) 29 (nI n).toNatClampNeg ((qI h1 28 (nI n).toNatClampNeg (h1.1 21 (nI n).toNatClampNeg)).1 22 (nI n).toNatClampNeg)) 30 (nI n).toNatClampNeg ((qI (qI h1 28 (nI n).toNatClampNeg (h1.1 21 (nI n).toNatClampNeg)) 29 (nI n).toNatClampNeg ((qI h1 28 (nI n).toNatClampNeg (h1.1 21 (nI n).toNatClampNeg)).1 22 (nI n).toNatClampNeg)).1 23 (nI n).toNatClampNeg))
    rw [ec]
    exact this
theorem l_imgA (hk : ∀ h', mI_img h h' 4 6 → K (some (.int (h'.1 15 10))) h') : ∀ m n, n + m = 4 → ∀ h1, mI_img h h1 n 0 → qAt (d, 121, some .int, q0, K) 34 [some (.ref 15), some (.int (nI n))] [] h1 := by
  intro m
  induction m with
  | zero =>
    intro n hn h1 hc
    have hn : n = 4 := by omega
    subst hn
    refine at_wp [57] 12 (Nat.le_of_ble_eq_true rfl) rfl ?_
    refine And.intro (fun _ => ?_) (fun c => absurd (by decide) c)
    exact l_imgB hk 6 0 rfl h1 hc
  | succ m ih =>
    intro n hn h1 hc
    have ec : (nI n).toNatClampNeg = n := nI_clamp (by omega)
    refine at_wp [34] 60 (Nat.le_of_ble_eq_true rfl) rfl ?_
    refine And.intro (fun c => absurd c (nI_ge (a := n) (b := 4) (by omega) (by decide))) (fun _ => ?_)
    refine And.intro (vp_in_nI (by omega) (by decide)) ?_
    refine And.intro (vp_in_nI (by omega) (by decide)) ?_
    refine And.intro (vp_in_nI (by omega) (by decide)) ?_
    refine And.intro (vp_in_nI (by omega) (by decide)) ?_
    obtain ⟨z1, z2, z3⟩ := hc
    have hc2 : mI_img h (qI (qI h1 26 n (h1.1 18 n)) 27 n ((qI h1 26 n (h1.1 18 n)).1 19 n)) (n + 1) 0 := by
      refine ⟨((z1).I (by decide)).I (by decide), fun p hp => ?_, fun p hp => ?_⟩
      · have es : h1.1 18 = h.1 18 ∧ h1.1 19 = h.1 19 := ⟨z1.1 18 (by decide), z1.1 19 (by decide)⟩
        by_cases e : p = n
        · subst e
          simp [qI_get, es]
        · have := z2 p (by omega)
          simp [qI_get, e, this]
      · simp only [qI_get]
        omega
    have := ih (n + 1) (by omega) _ hc2
    rw [← nI_1] at this
    show qAt _ 34 [some (.ref 15), some (.int (nI n + 1))] [] (qI (qI h1 26 (nI n).toNatClampNeg (h1.1 18 (nI n).toNatClampNeg)) 27 (nI n).toNatClampNeg ((qI h1 26 (nI n).toNatClampNeg (h1.1 18 (nI n).toNatClampNeg)).1 19 (nI n).toNatClampNeg))
    rw [ec]
    exact this
def mI_res (h h1 : qH) (n i : Nat) : Prop := Fr [18, 19, 21, 22, 23] h h1 ∧ (∀ p, p < n → h1.1 18 p = h.1 26 p ∧ h1.1 19 p = h.1 27 p) ∧ ∀ p, p < i → h1.1 21 p = h.1 28 p ∧ h1.1 22 p = h.1 29 p ∧ h1.1 23 p = h.1 30 p
theorem l_resB (hk : ∀ h', mI_res h h' 4 6 → K (some (.int (h'.1 15 10))) h') : ∀ m n, n + m = 6 → ∀ h1, mI_res h h1 4 n → qAt (d, 122, some .int, q0, K) 55 [some (.ref 15), some (.int (nI n))] [] h1 := by
  intro m
  induction m with
  | zero =>
    intro n hn h1 hc
    have hn : n = 6 := by omega
    subst hn
    refine at_wp [] 12 (Nat.le_of_ble_eq_true rfl) rfl ?_
    refine And.intro (fun _ => ?_) (fun c => absurd (by decide) c)
    exact hk h1 hc
  | succ m ih =>
    intro n hn h1 hc
    have ec : (nI n).toNatClampNeg = n := nI_clamp (by omega)
    refine at_wp [55] 60 (Nat.le_of_ble_eq_true rfl) rfl ?_
    refine And.intro (fun c => absurd c (nI_ge (a := n) (b := 6) (by omega) (by decide))) (fun _ => ?_)
    refine And.intro (vp_in_nI (by omega) (by decide)) ?_
    refine And.intro (vp_in_nI (by omega) (by decide)) ?_
    refine And.intro (vp_in_nI (by omega) (by decide)) ?_
    refine And.intro (vp_in_nI (by omega) (by decide)) ?_
    refine And.intro (vp_in_nI (by omega) (by decide)) ?_
    refine And.intro (vp_in_nI (by omega) (by decide)) ?_
    obtain ⟨z1, z2, z3⟩ := hc
    have hc2 : mI_res h (qI (qI (qI h1 21 n (h1.1 28 n)) 22 n ((qI h1 21 n (h1.1 28 n)).1 29 n)) 23 n ((qI (qI h1 21 n (h1.1 28 n)) 22 n ((qI h1 21 n (h1.1 28 n)).1 29 n)).1 30 n)) 4 (n + 1) := by
      refine ⟨(((z1).I (by decide)).I (by decide)).I (by decide), fun p hp => ?_, fun p hp => ?_⟩
      · simp only [qI_get]
        have := z2 p hp
        simp [this]
      · have es : h1.1 28 = h.1 28 ∧ h1.1 29 = h.1 29 ∧ h1.1 30 = h.1 30 := ⟨z1.1 28 (by decide), z1.1 29 (by decide), z1.1 30 (by decide)⟩
        by_cases e : p = n
        · subst e
          simp [qI_get, es]
        · have := z3 p (by omega)
          simp [qI_get, e, this]
    have := ih (n + 1) (by omega) _ hc2
    rw [← nI_1] at this
    show qAt _ 55 [some (.ref 15), some (.int (nI n + 1))] [] (qI (qI (qI h1 21 (nI n).toNatClampNeg (h1.1 28 (nI n).toNatClampNeg)) 22 (nI n).toNatClampNeg ((qI h1 21 (nI n).toNatClampNeg (h1.1 28 (nI n).toNatClampNeg)).1 29 (nI n).toNatClampNeg)) 23 (nI n).toNatClampNeg ((qI (qI h1 21 (nI n).toNatClampNeg (h1.1 28 (nI n).toNatClampNeg)) 22 (nI n).toNatClampNeg ((qI h1 21 (nI n).toNatClampNeg (h1.1 28 (nI n).toNatClampNeg)).1 29 (nI n).toNatClampNeg)).1 30 (nI n).toNatClampNeg))
    rw [ec]
    exact this
theorem l_resA (hk : ∀ h', mI_res h h' 4 6 → K (some (.int (h'.1 15 10))) h') : ∀ m n, n + m = 4 → ∀ h1, mI_res h h1 n 0 → qAt (d, 122, some .int, q0, K) 32 [some (.ref 15), some (.int (nI n))] [] h1 := by
  intro m
  induction m with
  | zero =>
    intro n hn h1 hc
    have hn : n = 4 := by omega
    subst hn
    refine at_wp [55] 12 (Nat.le_of_ble_eq_true rfl) rfl ?_
    refine And.intro (fun _ => ?_) (fun c => absurd (by decide) c)
    exact l_resB hk 6 0 rfl h1 hc
  | succ m ih =>
    intro n hn h1 hc
    have ec : (nI n).toNatClampNeg = n := nI_clamp (by omega)
    refine at_wp [32] 60 (Nat.le_of_ble_eq_true rfl) rfl ?_
    refine And.intro (fun c => absurd c (nI_ge (a := n) (b := 4) (by omega) (by decide))) (fun _ => ?_)
    refine And.intro (vp_in_nI (by omega) (by decide)) ?_
    refine And.intro (vp_in_nI (by omega) (by decide)) ?_
    refine And.intro (vp_in_nI (by omega) (by decide)) ?_
    refine And.intro (vp_in_nI (by omega) (by decide)) ?_
    obtain ⟨z1, z2, z3⟩ := hc
    have hc2 : mI_res h (qI (qI h1 18 n (h1.1 26 n)) 19 n ((qI h1 18 n (h1.1 26 n)).1 27 n)) (n + 1) 0 := by
      refine ⟨((z1).I (by decide)).I (by decide), fun p hp => ?_, fun p hp => ?_⟩
      · have es : h1.1 26 = h.1 26 ∧ h1.1 27 = h.1 27 := ⟨z1.1 26 (by decide), z1.1 27 (by decide)⟩
        by_cases e : p = n
        · subst e
          simp [qI_get, es]
        · have := z2 p (by omega)
          simp [qI_get, e, this]
      · simp only [qI_get]
        omega
    have := ih (n + 1) (by omega) _ hc2
    rw [← nI_1] at this
    show qAt _ 32 [some (.ref 15), some (.int (nI n + 1))] [] (qI (qI h1 18 (nI n).toNatClampNeg (h1.1 26 (nI n).toNatClampNeg)) 19 (nI n).toNatClampNeg ((qI h1 18 (nI n).toNatClampNeg (h1.1 26 (nI n).toNatClampNeg)).1 27 (nI n).toNatClampNeg))
    rw [ec]
    exact this
theorem m_image (hM : RM h S) (hG : RG S) (hk : ∀ h', Fr lM h h' → RM h' (uImage S) → K (some (.int (aImage S))) h') : qCall (d + 1) 121 [.ref 15] h K := by
  have hB := hG.1
  have hn0 := hB.1
  have ha0 := hG.2.1.1
  unfold aImage uImage at hk
  refine call_wp (n := 40) (cut := [34]) _ (by decide) (Nat.lt_succ_self _) rfl rfl (Nat.le_of_ble_eq_true rfl) rfl ?_
  refine And.intro (fun c1 => ?_) (fun c1 => ?_)
  · have c1 : h.1 15 1 = nI 0 := c1
    rw [hM.1.1, nI_eq (by omega) (by omega)] at c1
    simp only [if_pos c1] at hk
    exact hk h Fr.rf hM
  · have c1 : ¬ h.1 15 1 = nI 0 := c1
    rw [hM.1.1, nI_eq (by omega) (by omega)] at c1
    simp only [if_neg c1] at hk
    refine And.intro (Or.inr rfl) ?_
    obtain ⟨hb, ehb⟩ : ∃ hb, hb = qI (qI (qI (qI (qI (qI (qI h 15 22 1) 15 23 (h.1 15 0)) 15 24 (h.1 15 7)) 15 25 (h.1 15 8)) 15 26 (h.1 15 9)) 15 27 (h.1 15 10)) 15 28 (h.1 15 11) := ⟨_, rfl⟩
    have b15 : ∀ k, k < 22 → hb.1 15 k = h.1 15 k := fun k hk => by
      rw [ehb]
      simp only [qI_get]
      rw [if_neg (by omega), if_neg (by omega), if_neg (by omega), if_neg (by omega), if_neg (by omega), if_neg (by omega), if_neg (by omega)]
    have bo : ∀ a, a ≠ 15 → hb.1 a = h.1 a := fun a ha => by
      rw [ehb, qI_ne ha, qI_ne ha, qI_ne ha, qI_ne ha, qI_ne ha, qI_ne ha, qI_ne ha]
    have bf : Fr [15] h hb := by
      rw [ehb]
      exact ((((((Fr.rf.I (by decide)).I (by decide)).I (by decide)).I (by decide)).I (by decide)).I (by decide)).I (by decide)
    have b22 : hb.1 15 22 = nI 1 ∧ hb.1 15 23 = h.1 15 0 ∧ hb.1 15 24 = h.1 15 7 ∧ hb.1 15 25 = h.1 15 8 ∧ hb.1 15 26 = h.1 15 9 ∧ hb.1 15 27 = h.1 15 10 ∧ hb.1 15 28 = h.1 15 11 := by
      rw [ehb]
      simp only [qI_get]
      exact ⟨rfl, rfl, rfl, rfl, rfl, rfl, rfl⟩
    have go : qAt (d, 121, some .int, q0, K) 34 [some (.ref 15), some (.int (nI 0))] [] hb := by
      refine l_imgA (fun h' hc => ?_) 4 0 rfl hb ⟨Fr.rf, fun p hp => by omega, fun p hp => by omega⟩
      obtain ⟨z1, z2, z3⟩ := hc
      have h15 : h'.1 15 = hb.1 15 := z1.1 15 (by decide)
      have hf : Fr lM h h' := (bf.mono (by decide)).tr (z1.mono (by decide))
      rw [h15, b15 10 (by decide), hM.1.2.2.2.2.2.2.1]
      refine hk h' hf ?_
      obtain ⟨x1, x2, x3, x4, x5, ⟨kf, kc, k1, k2, k3, k4, k5⟩, x7⟩ := hM
      obtain ⟨m1, m2, m3, m4, m5, m6, m7, m8, m9⟩ := id x1
      have ho : ∀ a, a ≠ 15 → a < 26 → h'.1 a = h.1 a := fun a h1 h2 => (z1.1 a (by simp; omega)).trans (bo a h1)
      have gl : ∀ a, a < 13 → gimg S a = S a := fun a ha => gimg_o (Or.inl ha)
      obtain ⟨q1, q2, q3, q4, q5, q6, q7⟩ := b22
      unfold RM RMk
      rw [gl 0 (by decide), gl 10 (by decide), gl 11 (by decide), gl 12 (by decide), ho 24 (by decide) (by decide), h15, b15 15 (by decide), b15 16 (by decide), b15 0 (by decide), q1, q2, q3, q4, q5, q6, q7]
      refine ⟨(x1.h (fun k hk => by rw [h15]; exact b15 k (by omega)) (fun a h1 h2 => ho a (by omega) (by omega))).S (fun a ha => gl a (by omega)), x2, x3, x4, x5, ⟨1, S 12 1, rfl, by decide, x5, Nat.le_refl _, ⟨fun _ => ⟨rfl, rfl⟩, fun _ => rfl⟩⟩, fun _ => ⟨m4, m5, m6, m7, m8, fun p hp => ?_, fun i hi => ?_⟩⟩
      · obtain ⟨w1, w2⟩ := z2 p (by omega)
        rw [w1, w2, bo 18 (by decide), bo 19 (by decide)]
        exact ⟨(m2 p hp).2.2.1, (m2 p hp).2.2.2⟩
      · have hi : i < S 5 4 := hi
        obtain ⟨w1, w2, w3⟩ := z3 i (by omega)
        rw [w1, w2, w3, bo 21 (by decide), bo 22 (by decide), bo 23 (by decide)]
        exact m9 i hi
    rw [ehb] at go
    exact go
theorem m_restore (hM : RM h S) (hG : RG S) (hc31 : S 12 1 < 1000000) (hk : ∀ h', Fr lM h h' → RM h' (uRestore S) → K (some (.int (aRestore S))) h') : qCall (d + 1) 122 [.ref 15] h K := by
  have hB := hG.1
  have hn0 := hB.1
  have h13 := hG.2.2.2.1
  obtain ⟨x1, x2, x3, x4, x5, ⟨kf, kc, k1, k2, k3, k4, k5⟩, x7⟩ := id hM
  unfold aRestore uRestore at hk
  refine call_wp (n := 40) (cut := [32]) _ (by decide) (Nat.lt_succ_self _) rfl rfl (Nat.le_of_ble_eq_true rfl) rfl ?_
  refine And.intro (fun c1 => ?_) (fun c1 => ?_)
  · have c1 : h.1 15 22 = nI 0 := c1
    rw [k1, nI_eq (by omega) (by omega)] at c1
    have z : S 13 0 = 0 := by
      rcases Nat.lt_or_ge (S 13 0) 1 with w | w
      · omega
      · have := (k5.mp (by omega)).1
        omega
    simp only [if_pos z] at hk
    exact hk h Fr.rf hM
  · have c1 : ¬ h.1 15 22 = nI 0 := c1
    rw [k1, nI_eq (by omega) (by omega)] at c1
    refine And.intro (fun c2 => ?_) (fun c2 => ?_)
    · have c2 : h.1 15 23 = h.1 15 0 := c2
      rw [k3, x5, nI_eq (by omega) (by omega)] at c2
      have z1 : S 13 0 = 1 := k5.mpr ⟨by omega, c2⟩
      have z : ¬ S 13 0 = 0 := by omega
      simp only [if_neg z] at hk
      have kA := (hG.2.2.1 z1).2
      have ka0 : S 15 4 ≤ 6 := kA.1
      obtain ⟨n1, n2, n3, n4, n5, n6, n7⟩ := x7 z1
      obtain ⟨hb, ehb⟩ : ∃ hb, hb = qI (qI (qI (qI (qI h 15 7 (h.1 15 24)) 15 8 (h.1 15 25)) 15 9 (h.1 15 26)) 15 10 (h.1 15 27)) 15 11 (h.1 15 28) := ⟨_, rfl⟩
      have b15 : ∀ k, k < 7 ∨ 11 < k → hb.1 15 k = h.1 15 k := fun k hk => by
        rw [ehb]
        simp only [qI_get]
        rw [if_neg (by omega), if_neg (by omega), if_neg (by omega), if_neg (by omega), if_neg (by omega)]
      have bo : ∀ a, a ≠ 15 → hb.1 a = h.1 a := fun a ha => by
        rw [ehb, qI_ne ha, qI_ne ha, qI_ne ha, qI_ne ha, qI_ne ha]
      have bf : Fr [15] h hb := by
        rw [ehb]
        exact ((((Fr.rf.I (by decide)).I (by decide)).I (by decide)).I (by decide)).I (by decide)
      have b7 : hb.1 15 7 = h.1 15 24 ∧ hb.1 15 8 = h.1 15 25 ∧ hb.1 15 9 = h.1 15 26 ∧ hb.1 15 10 = h.1 15 27 ∧ hb.1 15 11 = h.1 15 28 := by
        rw [ehb]
        simp only [qI_get]
        exact ⟨rfl, rfl, rfl, rfl, rfl⟩
      have go : qAt (d, 122, some .int, q0, K) 32 [some (.ref 15), some (.int (nI 0))] [] hb := by
        refine l_resA (fun h' hc => ?_) 4 0 rfl hb ⟨Fr.rf, fun p hp => by omega, fun p hp => by omega⟩
        obtain ⟨z1', z2, z3⟩ := hc
        have h15 : h'.1 15 = hb.1 15 := z1'.1 15 (by decide)
        have hf : Fr lM h h' := (bf.mono (by decide)).tr (z1'.mono (by decide))
        obtain ⟨q1, q2, q3, q4, q5⟩ := b7
        rw [h15, q4, n4]
        refine hk h' hf ?_
        obtain ⟨m1, m2, m3, m4, m5, m6, m7, m8, m9⟩ := id x1
        have ho : ∀ a, a ≠ 15 → a = 16 ∨ a = 17 ∨ a = 20 ∨ 24 ≤ a → h'.1 a = h.1 a := fun a h1 h2 => (z1'.1 a (by simp; omega)).trans (bo a h1)
        refine hM.scene (fun k h1 h2 => by rw [h15]; exact b15 k (by omega)) (fun a ha => ho a (by omega) (by omega)) ?_ (fun a ha => gkept_o ha)
        unfold RMc
        rw [h15, b15 1 (by omega), q1, q2, q3, q4, q5, ho 16 (by decide) (by omega), ho 17 (by decide) (by omega), ho 20 (by decide) (by omega)]
        refine ⟨m1, fun p hp => ?_, m3, n1, n2, n3, n4, n5, fun i hi => ?_⟩
        · have hp : p < S 0 0 := hp
          obtain ⟨w1, w2⟩ := z2 p (by omega)
          rw [w1, w2, bo 26 (by decide), bo 27 (by decide)]
          exact ⟨(m2 p hp).1, (m2 p hp).2.1, (n6 p hp).1, (n6 p hp).2⟩
        · have hi : i < S 15 4 := hi
          obtain ⟨w1, w2, w3⟩ := z3 i (by omega)
          rw [w1, w2, w3, bo 28 (by decide), bo 29 (by decide), bo 30 (by decide)]
          exact n7 i hi
      rw [ehb] at go
      exact go
    · have c2 : ¬ h.1 15 23 = h.1 15 0 := c2
      rw [k3, x5, nI_eq (by omega) (by omega)] at c2
      have z : S 13 0 = 0 := by
        rcases Nat.lt_or_ge (S 13 0) 1 with w | w
        · omega
        · exact absurd (k5.mp (by omega)).2 c2
      simp only [if_pos z] at hk
      exact hk h Fr.rf hM
end QM7
end
section
/-! ## the digest -/
def gmix (a : Int64) (v : Int32) : Int64 := Int64.ofInt 31 * a + v.toInt64
def gunp (S : gS) (p q : Nat) : Int32 := if (S 5 0).testBit p || (S 5 0).testBit q then 0 else nI (gsafeN S p q 4)
def gd1 (S : gS) (p : Nat) (a : Int64) : Nat → Int64
  | 0 => a
  | k + 1 => gmix (gd1 S p a k) (aOne S p k)
def gd2 (S : gS) (p : Nat) (a : Int64) : Nat → Int64
  | 0 => a
  | q + 1 => if q = p then gd2 S p a q else gmix (gd2 S p a q) (gunp S p q)
def gdP (S : gS) : Nat → Int64
  | 0 => Int64.ofInt 991
  | p + 1 => gd2 S p (gd1 S p (gdP S p) 8) (S 0 0)
def gdS1 (S : gS) (a : Int64) (k : Nat) : Int64 := gmix (gmix (gmix (gmix a (nI (S 3 k))) (if (S 5 2).testBit k then 1 else 0)) (nI (gposN S k (S 5 4)))) (if gposN S k (S 5 4) = 0 then -1 else ib (gbq S k (gposN S k (S 5 4)) (16 * S 0 0)).1)
def gdS (S : gS) (a : Int64) : Nat → Int64
  | 0 => a
  | k + 1 => gdS1 S (gdS S a k) k
def gdG (S : gS) (a : Int64) : Nat → Int64
  | 0 => a
  | i + 1 => gmix (gdG S a i) (nI (S 11 i))
def gdC (S : gS) (a : Int64) : Nat → Int64
  | 0 => a
  | w + 1 => gmix (gdC S a w) (aCount S (nI w))
def aDigest (S : gS) : Int64 := gdC S (gdG S (if 0 < S 0 0 then gdS S (gdP S (S 0 0)) 4 else gdP S (S 0 0)) (S 10 0)) 10
theorem gsafeN_hung {S : gS} {f t : Nat} (e : ((S 5 0).testBit f || (S 5 0).testBit t) = true) : ∀ n, gsafeN S f t n = 0
  | 0 => rfl
  | n + 1 => by
    have g : gcan S f t n = false := by
      unfold gcan
      cases a : (S 5 0).testBit f <;> cases b : (S 5 0).testBit t <;> simp_all
    rw [gsafeN, g]
    exact gsafeN_hung e n
theorem gunp_eq (S : gS) (p q : Nat) : gunp S p q = nI (gsafeN S p q 4) := by
  unfold gunp
  split
  · rename_i e
    rw [gsafeN_hung e]
    rfl
  · rfl
theorem ix_nI8 : ∀ k, k < 8 → ix (nI k) 8 = some k := fun k hk => ix_some hk (by decide)
section QD
variable {d : Nat} {h : qH} {K : qK} {S : gS}
theorem c_at {i : Nat} (hX : RX h S) (hG : RG S) (hi : i < S 10 0) (hk : K (some (.int (nI (S 11 i)))) h) : qCall (d + 1) 3 [.ref 1, .int (nI i)] h K := by
  have h10 := hG.2.2.2.2.2.1
  have e := hX.2.2.2.2.2.2.1
  have ei := hX.2.2.2.2.2.2.2 i hi
  have ec : (nI i).toNatClampNeg = i := nI_clamp (by omega)
  refine call_wp (n := 30) (cut := []) _ (by decide) (Nat.lt_succ_self _) rfl rfl (Nat.le_of_ble_eq_true rfl) rfl ?_
  refine And.intro (fun c => absurd c (Int32.not_lt.mpr (nI_le (a := 0) (Nat.zero_le _) (by omega)))) (fun _ => ?_)
  refine And.intro (fun c => absurd c (by show ¬ h.1 1 1 ≤ nI i; rw [e]; exact nI_ge (by omega) (by omega))) (fun _ => ?_)
  refine And.intro (fun c => absurd c (nI_ge (a := i) (b := 22) (by omega) (by decide))) (fun _ => ?_)
  refine And.intro (vp_in_nI (by omega) (by decide)) ?_
  show K (some (.int (h.1 2 (nI i).toNatClampNeg))) h
  rw [ec]
  exact kI hk ei.symm
theorem l_dp2 {p : Nat} {a0 a : Int64} (hX : RX h S) (hG : RG S) (hp : p < S 0 0) (hk : K (some (.long (gd2 S p a (S 0 0)))) h) : ∀ m n, n + m = S 0 0 → qAt (d + 5, 65, some .long, q0, K) 21 [some (.ref 0), some (.long a0), none, some (.int (nI p)), some (.long (gd2 S p a n)), none, some (.int (nI n))] [] h := by
  have hB := hG.1
  have hn0 := hB.1
  have e := hX.1.1
  intro m
  induction m with
  | zero =>
    intro n hn
    have hn : n = S 0 0 := by omega
    refine at_wp [] 12 (Nat.le_of_ble_eq_true rfl) rfl ?_
    refine And.intro (fun _ => ?_) (fun c => absurd (by show h.1 3 0 ≤ nI n; rw [e, hn]; exact nI_le (Nat.le_refl _) (by omega)) c)
    rw [← hn] at hk
    exact hk
  | succ m ih =>
    intro n hn
    refine at_wp [21] 60 (Nat.le_of_ble_eq_true rfl) rfl ?_
    refine And.intro (fun c => absurd c (by show ¬ h.1 3 0 ≤ nI n; rw [e]; exact nI_ge (by omega) (by omega))) (fun _ => ?_)
    have ih := ih (n + 1) (by omega)
    rw [gd2, ← nI_1] at ih
    refine And.intro (fun c => ?_) (fun c => ?_)
    · rw [nI_eq (by omega) (by omega)] at c
      rw [if_pos c] at ih
      exact ih
    · rw [nI_eq (by omega) (by omega)] at c
      rw [if_neg c, gunp_eq] at ih
      exact c_unpunished hX.1 hX.2.1 hB hp (by omega) ih
theorem l_dp1 {p : Nat} {a : Int64} (hX : RX h S) (hG : RG S) (hp : p < S 0 0) (hk : K (some (.long (gd2 S p (gd1 S p a 8) (S 0 0)))) h) : ∀ m n, n + m = 8 → qAt (d + 5, 65, some .long, q0, K) 4 [some (.ref 0), some (.long a), none, some (.int (nI p)), some (.long (gd1 S p a n)), none, some (.int (nI n))] [] h := by
  have hB := hG.1
  have hn0 := hB.1
  intro m
  induction m with
  | zero =>
    intro n hn
    have hn : n = 8 := by omega
    subst hn
    refine at_wp [21] 12 (Nat.le_of_ble_eq_true rfl) rfl ?_
    refine And.intro (fun _ => ?_) (fun c => absurd (by decide) c)
    exact l_dp2 hX hG hp hk (S 0 0) 0 (by omega)
  | succ m ih =>
    intro n hn
    refine at_wp [4] 60 (Nat.le_of_ble_eq_true rfl) rfl ?_
    refine And.intro (fun c => absurd c (nI_ge (a := n) (b := 8) (by omega) (by decide))) (fun _ => ?_)
    have ih := ih (n + 1) (by omega)
    rw [gd1, ← nI_1] at ih
    refine x_about hX hG ?_
    rw [aAbout_one hB hp (by omega) (ix_nI8 n (by omega))]
    exact ih
theorem c_digestPerson {p : Nat} {a : Int64} (hX : RX h S) (hG : RG S) (hp : p < S 0 0) (hk : K (some (.long (gd2 S p (gd1 S p a 8) (S 0 0)))) h) : qCall (d + 6) 65 [.ref 0, .long a, .int (nI p)] h K := by
  refine call_wp (n := 20) (cut := [4]) _ (by decide) (Nat.lt_succ_self _) rfl rfl (Nat.le_of_ble_eq_true rfl) rfl ?_
  exact l_dp1 hX hG hp hk 8 0 rfl
theorem c_digestSign {k : Nat} {a : Int64} (hX : RX h S) (hG : RG S) (h0 : 0 < S 0 0) (hp : k < 4) (hk : K (some (.long (gdS1 S a k))) h) : qCall (d + 6) 66 [.ref 0, .long a, .int (nI k)] h K := by
  have hB := hG.1
  unfold gdS1 at hk
  refine call_wp (n := 60) (cut := []) _ (by decide) (Nat.lt_succ_self _) rfl rfl (Nat.le_of_ble_eq_true rfl) rfl ?_
  refine x_sign hX hG ?_
  rw [show aSign S (nI k) = nI (S 3 k) by unfold aSign; rw [isg_some h0 hp]]
  refine c_isForbidden (Or.inl rfl) hX.2.1 hB hp (fun b1 => ?_) (fun b1 => ?_)
  · refine And.intro (fun c => absurd c (by decide)) (fun _ => ?_)
    refine x_tells hX hG ?_
    rw [show aTells S (nI k) = nI (gposN S k (S 5 4)) by unfold aTells; rw [isg_some h0 hp]]
    refine x_next hX hG ?_
    rw [show aNext S (nI k) = (if gposN S k (S 5 4) = 0 then -1 else ib (gbq S k (gposN S k (S 5 4)) (16 * S 0 0)).1) by unfold aNext; rw [isg_some h0 hp]]
    rw [if_pos b1] at hk
    exact hk
  · refine And.intro (fun _ => ?_) (fun c => absurd rfl c)
    refine x_tells hX hG ?_
    rw [show aTells S (nI k) = nI (gposN S k (S 5 4)) by unfold aTells; rw [isg_some h0 hp]]
    refine x_next hX hG ?_
    rw [show aNext S (nI k) = (if gposN S k (S 5 4) = 0 then -1 else ib (gbq S k (gposN S k (S 5 4)) (16 * S 0 0)).1) by unfold aNext; rw [isg_some h0 hp]]
    rw [b1] at hk
    exact hk
theorem l_dC {a : Int64} (hX : RX h S) (hG : RG S) (hk : K (some (.long (gdC S a 10))) h) : ∀ m n, n + m = 10 → qAt (d + 6, 64, some .long, q0, K) 53 [some (.ref 0), some (.long (gdC S a n)), none, some (.int (nI n))] [] h := by
  intro m
  induction m with
  | zero =>
    intro n hn
    have hn : n = 10 := by omega
    subst hn
    refine at_wp [] 12 (Nat.le_of_ble_eq_true rfl) rfl ?_
    refine And.intro (fun _ => ?_) (fun c => absurd (by decide) c)
    exact hk
  | succ m ih =>
    intro n hn
    refine at_wp [53] 60 (Nat.le_of_ble_eq_true rfl) rfl ?_
    refine And.intro (fun c => absurd c (nI_ge (a := n) (b := 10) (by omega) (by decide))) (fun _ => ?_)
    have ih := ih (n + 1) (by omega)
    rw [gdC, ← nI_1] at ih
    refine x_count hX hG ?_
    exact ih
theorem l_dG {a : Int64} (hX : RX h S) (hG : RG S) (hk : K (some (.long (gdC S (gdG S a (S 10 0)) 10))) h) : ∀ m n, n + m = S 10 0 → qAt (d + 6, 64, some .long, q0, K) 34 [some (.ref 0), some (.long (gdG S a n)), none, some (.int (nI n))] [] h := by
  have h10 := hG.2.2.2.2.2.1
  have e := hX.2.2.2.2.2.2.1
  intro m
  induction m with
  | zero =>
    intro n hn
    have hn : n = S 10 0 := by omega
    refine at_wp [53] 12 (Nat.le_of_ble_eq_true rfl) rfl ?_
    refine And.intro (fun _ => ?_) (fun c => absurd (by show h.1 1 1 ≤ nI n; rw [e, hn]; exact nI_le (Nat.le_refl _) (by omega)) c)
    rw [← hn] at hk
    exact l_dC hX hG hk 10 0 rfl
  | succ m ih =>
    intro n hn
    refine at_wp [34] 60 (Nat.le_of_ble_eq_true rfl) rfl ?_
    refine And.intro (fun c => absurd c (by show ¬ h.1 1 1 ≤ nI n; rw [e]; exact nI_ge (by omega) (by omega))) (fun _ => ?_)
    have ih := ih (n + 1) (by omega)
    rw [gdG, ← nI_1] at ih
    refine c_at hX hG (by omega) ?_
    exact ih
theorem l_dS {a : Int64} (hX : RX h S) (hG : RG S) (h0 : 0 < S 0 0) (hk : K (some (.long (gdC S (gdG S (gdS S a 4) (S 10 0)) 10))) h) : ∀ m n, n + m = 4 → qAt (d + 6, 64, some .long, q0, K) 22 [some (.ref 0), some (.long (gdS S a n)), none, some (.int (nI n))] [] h := by
  intro m
  induction m with
  | zero =>
    intro n hn
    have hn : n = 4 := by omega
    subst hn
    refine at_wp [34] 12 (Nat.le_of_ble_eq_true rfl) rfl ?_
    refine And.intro (fun _ => ?_) (fun c => absurd (by decide) c)
    exact l_dG hX hG hk (S 10 0) 0 (by omega)
  | succ m ih =>
    intro n hn
    refine at_wp [22] 60 (Nat.le_of_ble_eq_true rfl) rfl ?_
    refine And.intro (fun c => absurd c (nI_ge (a := n) (b := 4) (by omega) (by decide))) (fun _ => ?_)
    have ih := ih (n + 1) (by omega)
    rw [gdS, ← nI_1] at ih
    refine c_digestSign hX hG h0 (by omega) ?_
    exact ih
theorem l_dP (hX : RX h S) (hG : RG S) (hk : K (some (.long (aDigest S))) h) : ∀ m n, n + m = S 0 0 → qAt (d + 6, 64, some .long, q0, K) 4 [some (.ref 0), some (.long (gdP S n)), none, some (.int (nI n))] [] h := by
  have hB := hG.1
  have hn0 := hB.1
  have e := hX.1.1
  unfold aDigest at hk
  intro m
  induction m with
  | zero =>
    intro n hn
    have hn : n = S 0 0 := by omega
    refine at_wp [22, 34] 20 (Nat.le_of_ble_eq_true rfl) rfl ?_
    refine And.intro (fun _ => ?_) (fun c => absurd (by show h.1 3 0 ≤ nI n; rw [e, hn]; exact nI_le (Nat.le_refl _) (by omega)) c)
    rw [← hn] at hk
    refine And.intro (fun c => ?_) (fun c => ?_)
    · have c : h.1 3 0 ≤ 0 := c
      rw [e] at c
      have z : ¬ 0 < n := fun z => absurd c (nI_ge (a := 0) (b := S 0 0) (by omega) (by omega))
      rw [if_neg z] at hk
      exact l_dG hX hG hk (S 10 0) 0 (by omega)
    · have c : ¬ h.1 3 0 ≤ 0 := c
      rw [e] at c
      have z : 0 < n := by
        rcases Nat.eq_zero_or_pos n with w | w
        · exact absurd (by rw [← hn, w]; exact nI_le (b := 0) (Nat.le_refl _) (by decide)) c
        · exact w
      rw [if_pos z] at hk
      exact l_dS hX hG (by omega) hk 4 0 rfl
  | succ m ih =>
    intro n hn
    refine at_wp [4] 60 (Nat.le_of_ble_eq_true rfl) rfl ?_
    refine And.intro (fun c => absurd c (by show ¬ h.1 3 0 ≤ nI n; rw [e]; exact nI_ge (by omega) (by omega))) (fun _ => ?_)
    have ih := ih (n + 1) (by omega)
    rw [gdP, ← nI_1] at ih
    refine c_digestPerson hX hG (by omega) ?_
    exact ih
theorem x_digest (hX : RX h S) (hG : RG S) (hk : K (some (.long (aDigest S))) h) : qCall (d + 7) 64 [.ref 0] h K := by
  refine call_wp (n := 20) (cut := [4]) _ (by decide) (Nat.lt_succ_self _) rfl rfl (Nat.le_of_ble_eq_true rfl) rfl ?_
  exact l_dP hX hG hk (S 0 0) 0 (by omega)
end QD
end
section
/-! ## the reference's digest -/
theorem qJ_qJ {h : qH} {a k : Nat} {v w : Int64} : qJ (qJ h a k v) a k w = qJ h a k w := by
  unfold qJ
  refine Prod.ext rfl ?_
  funext x y
  by_cases e : x = a ∧ y = k
  · simp only [if_pos e]
  · simp only [if_neg e]
theorem qJ_self {h : qH} {a k : Nat} {v : Int64} : (qJ h a k v).2 a k = v := by
  unfold qJ
  exact if_pos ⟨rfl, rfl⟩
theorem bit_v : ∀ x, x < 16 → ∀ k, k < 4 → nI x >>> (nI k &&& 31) &&& 1 = (if x.testBit k then (1 : Int32) else 0) := by decide +kernel
section QD2
variable {d : Nat} {h : qH} {K : qK} {S : gS}
theorem m_mix {a v : Int64} (hk : K none (qJ h 15 34 (Int64.ofInt 31 * a + v))) : qCall (d + 1) 125 [.ref 15, .long v] (qJ h 15 34 a) K := by
  refine call_wp (n := 30) (cut := []) _ (by decide) (Nat.lt_succ_self _) rfl rfl (Nat.le_of_ble_eq_true rfl) rfl ?_
  show K none (qJ (qJ h 15 34 a) 15 34 (Int64.ofInt 31 * (qJ h 15 34 a).2 15 34 + v))
  rw [qJ_qJ, qJ_self]
  exact hk
theorem m_dC {a : Int64} {u : Option Value} (hM : RM h S) (hG : RG S) (hk : K (some (.long (gdC S a 10))) (qJ h 15 34 (gdC S a 10))) : ∀ m n, n + m = 10 → qAt (d + 6, 126, some .long, q0, K) 105 [some (.ref 15), some (.int (nI n)), u] [] (qJ h 15 34 (gdC S a n)) := by
  intro m
  induction m with
  | zero =>
    intro n hn
    have hn : n = 10 := by omega
    subst hn
    refine at_wp [] 12 (Nat.le_of_ble_eq_true rfl) rfl ?_
    refine And.intro (fun _ => ?_) (fun c => absurd (by decide) c)
    show K (some (.long ((qJ h 15 34 (gdC S a 10)).2 15 34))) _
    rw [qJ_self]
    exact hk
  | succ m ih =>
    intro n hn
    refine at_wp [105] 60 (Nat.le_of_ble_eq_true rfl) rfl ?_
    refine And.intro (fun c => absurd c (nI_ge (a := n) (b := 10) (by omega) (by decide))) (fun _ => ?_)
    have ih := ih (n + 1) (by omega)
    rw [gdC, ← nI_1] at ih
    refine m_howMany (h := qJ h 15 34 (gdC S a n)) (S := S) hM hG ?_
    exact m_mix ih
theorem m_dG {a : Int64} {u : Option Value} (hM : RM h S) (hG : RG S) (hk : K (some (.long (gdC S (gdG S a (S 10 0)) 10))) (qJ h 15 34 (gdC S (gdG S a (S 10 0)) 10))) : ∀ m n, n + m = S 10 0 → qAt (d + 6, 126, some .long, q0, K) 90 [some (.ref 15), some (.int (nI n)), u] [] (qJ h 15 34 (gdG S a n)) := by
  have h10 := hG.2.2.2.2.2.1
  have e := hM.2.2.1
  intro m
  induction m with
  | zero =>
    intro n hn
    have hn : n = S 10 0 := by omega
    refine at_wp [105] 12 (Nat.le_of_ble_eq_true rfl) rfl ?_
    refine And.intro (fun _ => ?_) (fun c => absurd (by show h.1 15 16 ≤ nI n; rw [e, hn]; exact nI_le (Nat.le_refl _) (by omega)) c)
    rw [← hn] at hk
    exact m_dC hM hG hk 10 0 rfl
  | succ m ih =>
    intro n hn
    have ec : (nI n).toNatClampNeg = n := nI_clamp (by omega)
    refine at_wp [90] 60 (Nat.le_of_ble_eq_true rfl) rfl ?_
    refine And.intro (fun c => absurd c (by show ¬ h.1 15 16 ≤ nI n; rw [e]; exact nI_ge (by omega) (by omega))) (fun _ => ?_)
    refine And.intro (vp_in_nI (by omega) (by decide)) ?_
    have ih := ih (n + 1) (by omega)
    rw [gdG, ← nI_1] at ih
    show qCall _ 125 [.ref 15, .long (h.1 24 (nI n).toNatClampNeg).toInt64] _ _
    rw [ec, hM.2.2.2.1 n (by omega)]
    exact m_mix ih
theorem m_dS {a : Int64} {u : Option Value} (hM : RM h S) (hG : RG S) (h0 : 0 < S 0 0) (hk : K (some (.long (gdC S (gdG S (gdS S a 4) (S 10 0)) 10))) (qJ h 15 34 (gdC S (gdG S (gdS S a 4) (S 10 0)) 10))) : ∀ m n, n + m = 4 → qAt (d + 6, 126, some .long, q0, K) 52 [some (.ref 15), some (.int (nI n)), u] [] (qJ h 15 34 (gdS S a n)) := by
  have hB := hG.1
  have hn0 := hB.1
  have e := hM.1.1
  intro m
  induction m with
  | zero =>
    intro n hn
    have hn : n = 4 := by omega
    subst hn
    refine at_wp [90] 12 (Nat.le_of_ble_eq_true rfl) rfl ?_
    refine And.intro (fun _ => ?_) (fun c => absurd (by decide) c)
    exact m_dG hM hG hk (S 10 0) 0 (by omega)
  | succ m ih =>
    intro n hn
    have ec : (nI n).toNatClampNeg = n := nI_clamp (by omega)
    refine at_wp [52] 60 (Nat.le_of_ble_eq_true rfl) rfl ?_
    refine And.intro (fun c => absurd c (nI_ge (a := n) (b := 4) (by omega) (by decide))) (fun _ => ?_)
    refine And.intro (fun c => absurd c (by show ¬ h.1 15 1 ≤ 0; rw [e]; exact nI_ge (a := 0) (by omega) (by omega))) (fun _ => ?_)
    refine And.intro (vp_in_nI (by omega) (by decide)) ?_
    have ih := ih (n + 1) (by omega)
    rw [gdS, ← nI_1] at ih
    unfold gdS1 at ih
    show qCall _ 125 [.ref 15, .long (h.1 20 (nI n).toNatClampNeg).toInt64] _ _
    rw [ec, hM.1.2.2.1 n (by omega)]
    refine m_mix ?_
    show qCall _ 125 [.ref 15, .long (h.1 15 7 >>> (nI n &&& 31) &&& 1).toInt64] _ _
    rw [hM.1.2.2.2.1, bit_v _ hB.2.2.2.2.2 n (by omega)]
    refine m_mix ?_
    refine m_tellsNow (h := qJ h 15 34 _) (S := S) hM.1 hB hG.2.1 (by omega) ?_
    refine m_mix ?_
    refine m_nextNow (h := qJ h 15 34 _) (S := S) hM.1 hB hG.2.1 (by omega) ?_
    exact m_mix ih
theorem m_dP2 {p : Nat} {a : Int64} (hM : RM h S) (hG : RG S) (hp : p < S 0 0) (hk : qAt (d + 6, 126, some .long, q0, K) 5 [some (.ref 15), some (.int (nI (p + 1))), some (.int (nI (S 0 0)))] [] (qJ h 15 34 (gd2 S p a (S 0 0)))) : ∀ m n, n + m = S 0 0 → qAt (d + 6, 126, some .long, q0, K) 25 [some (.ref 15), some (.int (nI p)), some (.int (nI n))] [] (qJ h 15 34 (gd2 S p a n)) := by
  have hB := hG.1
  have hn0 := hB.1
  have e := hM.1.1
  intro m
  induction m with
  | zero =>
    intro n hn
    have hn : n = S 0 0 := by omega
    refine at_wp [5] 12 (Nat.le_of_ble_eq_true rfl) rfl ?_
    refine And.intro (fun _ => ?_) (fun c => absurd (by show h.1 15 1 ≤ nI n; rw [e, hn]; exact nI_le (Nat.le_refl _) (by omega)) c)
    rw [← hn, ← nI_1] at hk
    exact hk
  | succ m ih =>
    intro n hn
    refine at_wp [25] 60 (Nat.le_of_ble_eq_true rfl) rfl ?_
    refine And.intro (fun c => absurd c (by show ¬ h.1 15 1 ≤ nI n; rw [e]; exact nI_ge (by omega) (by omega))) (fun _ => ?_)
    have ih := ih (n + 1) (by omega)
    rw [gd2, ← nI_1] at ih
    refine And.intro (fun c => ?_) (fun c => ?_)
    · rw [nI_eq (by omega) (by omega)] at c
      rw [if_pos c] at ih
      exact ih
    · rw [nI_eq (by omega) (by omega)] at c
      rw [if_neg c] at ih
      refine m_isAnyHanged (h := qJ h 15 34 _) (S := S) hM.1 hB hp (by omega) (fun b1 => ?_) (fun b1 => ?_)
      · refine And.intro (fun c => absurd c (by decide)) (fun _ => ?_)
        rw [show gunp S p n = 0 by unfold gunp; rw [if_pos b1]] at ih
        exact m_mix (v := (0 : Int32).toInt64) ih
      · refine And.intro (fun _ => ?_) (fun c => absurd rfl c)
        rw [gunp_eq] at ih
        refine m_safeNow (h := qJ h 15 34 _) (S := S) hM.1 hB hp (by omega) ?_
        exact m_mix ih
theorem m_dP1 {p : Nat} {a : Int64} (hM : RM h S) (hG : RG S) (hp : p < S 0 0) (hk : qAt (d + 6, 126, some .long, q0, K) 5 [some (.ref 15), some (.int (nI (p + 1))), some (.int (nI (S 0 0)))] [] (qJ h 15 34 (gd2 S p (gd1 S p a 8) (S 0 0)))) : ∀ m n, n + m = 8 → qAt (d + 6, 126, some .long, q0, K) 11 [some (.ref 15), some (.int (nI p)), some (.int (nI n))] [] (qJ h 15 34 (gd1 S p a n)) := by
  have hB := hG.1
  have hn0 := hB.1
  intro m
  induction m with
  | zero =>
    intro n hn
    have hn : n = 8 := by omega
    subst hn
    refine at_wp [25] 12 (Nat.le_of_ble_eq_true rfl) rfl ?_
    refine And.intro (fun _ => ?_) (fun c => absurd (by decide) c)
    exact m_dP2 hM hG hp hk (S 0 0) 0 (by omega)
  | succ m ih =>
    intro n hn
    refine at_wp [11] 60 (Nat.le_of_ble_eq_true rfl) rfl ?_
    refine And.intro (fun c => absurd c (nI_ge (a := n) (b := 8) (by omega) (by decide))) (fun _ => ?_)
    have ih := ih (n + 1) (by omega)
    rw [gd1, ← nI_1] at ih
    refine m_oneNow (h := qJ h 15 34 _) (S := S) hM.1 hB hp (by omega) ?_
    exact m_mix ih
theorem m_dP (hM : RM h S) (hG : RG S) (hk : K (some (.long (aDigest S))) (qJ h 15 34 (aDigest S))) : ∀ m n, n + m = S 0 0 → ∀ u, qAt (d + 6, 126, some .long, q0, K) 5 [some (.ref 15), some (.int (nI n)), u] [] (qJ h 15 34 (gdP S n)) := by
  have hB := hG.1
  have hn0 := hB.1
  have e := hM.1.1
  unfold aDigest at hk
  intro m
  induction m with
  | zero =>
    intro n hn u
    have hn : n = S 0 0 := by omega
    rcases Nat.eq_zero_or_pos n with w | w
    · refine at_wp [90] 40 (Nat.le_of_ble_eq_true rfl) rfl ?_
      refine And.intro (fun _ => ?_) (fun c => absurd (by show h.1 15 1 ≤ nI n; rw [e, hn]; exact nI_le (Nat.le_refl _) (by omega)) c)
      refine And.intro (fun c => absurd c (by decide)) (fun _ => ?_)
      refine And.intro (fun _ => ?_) (fun c => absurd (by show h.1 15 1 ≤ 0; rw [e, ← hn, w]; exact nI_le (b := 0) (Nat.le_refl _) (by decide)) c)
      rw [← hn, if_neg (by omega)] at hk
      exact m_dG hM hG hk (S 10 0) 0 (by omega)
    · refine at_wp [52] 40 (Nat.le_of_ble_eq_true rfl) rfl ?_
      refine And.intro (fun _ => ?_) (fun c => absurd (by show h.1 15 1 ≤ nI n; rw [e, hn]; exact nI_le (Nat.le_refl _) (by omega)) c)
      rw [← hn, if_pos w] at hk
      exact m_dS hM hG (by omega) hk 4 0 rfl
  | succ m ih =>
    intro n hn u
    refine at_wp [11] 60 (Nat.le_of_ble_eq_true rfl) rfl ?_
    refine And.intro (fun c => absurd c (by show ¬ h.1 15 1 ≤ nI n; rw [e]; exact nI_ge (by omega) (by omega))) (fun _ => ?_)
    have ih := ih (n + 1) (by omega)
    rw [gdP] at ih
    exact m_dP1 hM hG (by omega) (ih _) 8 0 rfl
theorem m_digest (hM : RM h S) (hG : RG S) (hk : ∀ h', h'.1 = h.1 → K (some (.long (aDigest S))) h') : qCall (d + 7) 126 [.ref 15] h K := by
  refine call_wp (n := 20) (cut := [5]) _ (by decide) (Nat.lt_succ_self _) rfl rfl (Nat.le_of_ble_eq_true rfl) rfl ?_
  exact m_dP (h := h) hM hG (hk _ rfl) (S 0 0) 0 (by omega) _
end QD2
end
section
/-! ## audiences: the draws, the class -/
def gns (s : Nat) : Nat := (1103515245 * s + 12345) % 2147483648
def gdr (s m : Nat) : Nat := s / 65536 % m
theorem gns_lt (s : Nat) : gns s < 2147483648 := Nat.mod_lt _ (Nat.le_of_ble_eq_true rfl)
theorem lN_c (n : Nat) : Int64.ofInt (n : Int) = lN n := Int64.ofInt_eq_ofNat
theorem lN_and {x : Nat} (hx : x < 9223372036854775808) : lN x &&& Int64.ofInt 2147483647 = lN (x % 2147483648) := by
  refine Int64.toBitVec.inj ?_
  refine BitVec.eq_of_toNat_eq ?_
  rw [Int64.toBitVec_and, BitVec.toNat_and]
  show (BitVec.ofNat 64 x).toNat &&& 2147483647 = (BitVec.ofNat 64 (x % 2147483648)).toNat
  rw [BitVec.toNat_ofNat, BitVec.toNat_ofNat, Nat.mod_eq_of_lt (by omega), Nat.mod_eq_of_lt (by omega)]
  exact Nat.and_two_pow_sub_one_eq_mod x 31
theorem seed_x {s : Nat} (hs : s < 2147483648) : Int64.ofInt 1103515245 * (nI s).toInt64 + Int64.ofInt 12345 = lN (1103515245 * s + 12345) := by
  rw [nI_l (by omega), show Int64.ofInt 1103515245 = lN 1103515245 from lN_c 1103515245, show Int64.ofInt 12345 = lN 12345 from lN_c 12345, lN_mul, lN_add]
def gst (P : Nat) (T : gS) (s : Nat) : gS × Nat := (if gcan T (gdr (gns s) P) (gdr (gns (gns s)) P) (gdr (gns (gns (gns s))) 4) then gpass T (gdr (gns s) P) (gdr (gns (gns s)) P) (gdr (gns (gns (gns s))) 4) else T, gns (gns (gns s)))
def gau (S : gS) (s : Nat) : Nat → gS × Nat
  | 0 => (S, s)
  | k + 1 => gst (S 0 0) (gau S s k).1 (gau S s k).2
theorem gpass_52 (S : gS) (f t s : Nat) : gpass S f t s 5 2 = S 5 2 := by
  unfold gpass
  rw [if_neg (by omega), if_neg (by omega), if_neg (by omega), if_neg (by omega), if_neg (by omega)]
theorem gau_ok {S : gS} {s : Nat} (hB : GB S) (h0 : 0 < S 0 0) (hs : s < 2147483648) : ∀ n, GB (gau S s n).1 ∧ (∀ a, a < 4 → (gau S s n).1 a = S a) ∧ (gau S s n).1 5 2 = S 5 2 ∧ (gau S s n).2 < 2147483648
  | 0 => ⟨hB, fun _ _ => rfl, rfl, hs⟩
  | n + 1 => by
    obtain ⟨b1, b2, b3, b4⟩ := gau_ok hB h0 hs n
    rw [gau]
    unfold gst
    refine ⟨?_, ?_, ?_, gns_lt _⟩
    · dsimp only
      split
      · exact gpass_B b1 (by rw [b2 0 (by decide)]; exact Nat.mod_lt _ h0) (by rw [b2 0 (by decide)]; exact Nat.mod_lt _ h0) (Nat.mod_lt _ (by decide))
      · exact b1
    · intro a ha
      dsimp only
      split
      · rw [gpass_S _ _ _ _ a ha]
        exact b2 a ha
      · exact b2 a ha
    · dsimp only
      split
      · rw [gpass_52]
        exact b3
      · exact b3
def aAud (S : gS) (t s w : Int32) : Int32 := if 1 ≤ t ∧ t ≤ 60 ∧ 0 ≤ s ∧ 0 ≤ w ∧ w ≤ 2 then (if S 0 0 = 0 then -103 else if w = 0 then nI (gpop ((gau S s.toNatClampNeg t.toNatClampNeg).1 5 0)) else if w = 1 then nI (ginfN (gau S s.toNatClampNeg t.toNatClampNeg).1 (S 0 0)) else nI (gau S s.toNatClampNeg t.toNatClampNeg).2) else -102
section QAU
variable {d : Nat} {h : qH} {K : qK} {S : gS}
theorem c_nextSeed {s : Nat} (hs : s < 2147483648) (hk : K (some (.int (nI (gns s)))) h) : qCall (d + 1) 71 [.int (nI s)] h K := by
  refine call_wp (n := 30) (cut := []) _ (by decide) (Nat.lt_succ_self _) rfl rfl (Nat.le_of_ble_eq_true rfl) rfl ?_
  refine And.intro (by decide) ?_
  refine kI hk ?_
  rw [seed_x hs, show Int64.ofInt 2147483648 = lN 2147483648 from lN_c 2147483648, pk_lRem (by omega) (by decide) (by decide), lN_i]
  rfl
theorem c_drawn {s m : Nat} (hs : s < 2147483648) (h0 : 0 < m) (hm : m < 10) (hk : K (some (.int (nI (gdr s m)))) h) : qCall (d + 1) 72 [.int (nI s), .int (nI m)] h K := by
  refine call_wp (n := 30) (cut := []) _ (by decide) (Nat.lt_succ_self _) rfl rfl (Nat.le_of_ble_eq_true rfl) rfl ?_
  refine And.intro (fun c => absurd c (nI_nle h0 (by omega))) (fun _ => ?_)
  refine And.intro (by decide) ?_
  refine And.intro (nI_ne0 h0 (by omega)) ?_
  refine kI hk ?_
  unfold gdr
  rw [show Int32.ofInt 65536 = nI 65536 by decide +kernel, pk_div (by omega) (by decide) (by decide), pk_rem (by omega) h0 (by omega)]
def auI (h : qH) (S : gS) (s n : Nat) (h1 : qH) : Prop := Fr [11, 12, 13] h h1 ∧ RS 11 h1 (gau S s n).1
theorem l_ha {s N : Nat} (hC : RC h S) (hB : GB S) (h0 : 0 < S 0 0) (hs : s < 2147483648) (hN : N < 100) (hk : ∀ h1, auI h S s N h1 → K (some (.int (nI (gau S s N).2))) h1) : ∀ m n, n + m = N → ∀ h1 x y z, auI h S s n h1 → qAt (d + 6, 70, some .int, q0, K) 4 [some (.ref 0), some (.int (nI N)), some (.int (nI s)), some (.int (nI (gau S s n).2)), some (.int (nI n)), x, y, z] [] h1 := by
  have hn0 := hB.1
  intro m
  induction m with
  | zero =>
    intro n hn h1 x y z hc
    have hn : n = N := by omega
    subst hn
    refine at_wp [] 12 (Nat.le_of_ble_eq_true rfl) rfl ?_
    refine And.intro (fun _ => ?_) (fun c => absurd (nI_le (Nat.le_refl _) (by omega)) c)
    exact hk h1 hc
  | succ m ih =>
    intro n hn h1 x y z hc
    obtain ⟨b1, b2, b3, b4⟩ := gau_ok hB h0 hs n
    obtain ⟨c1, c2⟩ := hc
    have e : h1.1 3 0 = nI (S 0 0) := by rw [c1.1 3 (by decide)]; exact hC.1
    have hC1 : RC h1 (gau S s n).1 := (hC.fr c1 (by decide) (by decide)).S (fun a ha => b2 a (by omega))
    have e0 : (gau S s n).1 0 0 = S 0 0 := by rw [b2 0 (by decide)]
    refine at_wp [4] 90 (Nat.le_of_ble_eq_true rfl) rfl ?_
    refine And.intro (fun c => absurd c (nI_ge (by omega) (by omega))) (fun _ => ?_)
    refine c_nextSeed b4 ?_
    show qCall _ 72 [.int (nI _), .int (h1.1 3 0)] h1 _
    rw [e]
    refine c_drawn (gns_lt _) h0 (by omega) ?_
    refine c_nextSeed (gns_lt _) ?_
    show qCall _ 72 [.int (nI _), .int (h1.1 3 0)] h1 _
    rw [e]
    refine c_drawn (gns_lt _) h0 (by omega) ?_
    refine c_nextSeed (gns_lt _) ?_
    refine c_drawn (m := 4) (gns_lt _) (by decide) (by decide) ?_
    refine c_canTell (S := (gau S s n).1) (Or.inr rfl) c2 b1 (by rw [e0]; exact Nat.mod_lt _ h0) (by rw [e0]; exact Nat.mod_lt _ h0) (Nat.mod_lt _ (by decide)) (fun g => ?_) (fun g => ?_)
    · refine And.intro (fun c => absurd c (by decide)) (fun _ => ?_)
      refine c_pass (S := (gau S s n).1) (Or.inr rfl) hC1 c2 b1 (by rw [e0]; exact Nat.mod_lt _ h0) (by rw [e0]; exact Nat.mod_lt _ h0) (Nat.mod_lt _ (by decide)) (fun h2 hf hR => ?_)
      have := ih (n + 1) (by omega) h2 (some (.int (nI (gdr (gns (gau S s n).2) (S 0 0))))) (some (.int (nI (gdr (gns (gns (gau S s n).2)) (S 0 0))))) (some (.int (nI (gdr (gns (gns (gns (gau S s n).2))) 4)))) ⟨c1.tr (hf.mono (by decide)), by rw [gau]; unfold gst; rw [if_pos g]; exact hR⟩
      rw [← nI_1] at this
      exact this
    · refine And.intro (fun _ => ?_) (fun c => absurd rfl c)
      have := ih (n + 1) (by omega) h1 (some (.int (nI (gdr (gns (gau S s n).2) (S 0 0))))) (some (.int (nI (gdr (gns (gns (gau S s n).2)) (S 0 0))))) (some (.int (nI (gdr (gns (gns (gns (gau S s n).2))) 4)))) ⟨c1, by rw [gau]; unfold gst; rw [if_neg (by rw [g]; decide)]; exact c2⟩
      rw [← nI_1] at this
      exact this
theorem c_holdAudiences {s N : Nat} (hC : RC h S) (hR : RS 11 h S) (hB : GB S) (h0 : 0 < S 0 0) (hs : s < 2147483648) (hN : N < 100) (hk : ∀ h1, auI h S s N h1 → K (some (.int (nI (gau S s N).2))) h1) : qCall (d + 7) 70 [.ref 0, .int (nI N), .int (nI s)] h K := by
  refine call_wp (n := 20) (cut := [4]) _ (by decide) (Nat.lt_succ_self _) rfl rfl (Nat.le_of_ble_eq_true rfl) rfl ?_
  exact l_ha hC hB h0 hs hN hk N 0 (by omega) h _ _ _ ⟨Fr.rf, hR⟩
end QAU
end
section
/-! ## audiences: the class's answer, the reference's draws -/
theorem RX.fr {h h' : qH} {S : gS} (hX : RX h S) (f : Fr [11, 12, 13] h h') : RX h' S := by
  obtain ⟨x1, x2, x3, x4, x5, x6, x7, x8⟩ := hX
  unfold RX
  rw [f.1 0 (by decide), f.1 1 (by decide), f.1 2 (by decide)]
  exact ⟨x1.fr f (by decide) (by decide), x2.fr f (by decide) (by decide) (by decide), fun z => (x3 z).fr f (by decide) (by decide) (by decide), x4, x5, x6, x7, x8⟩
theorem t_60 {t : Int32} (h1 : 1 ≤ t) (h2 : t ≤ 60) : ∃ n, t = nI n ∧ 1 ≤ n ∧ n ≤ 60 := by
  rcases pk_ix t (n := 61) (by decide) with c | c | ⟨n, hn, e⟩
  · exact absurd (Int32.lt_of_lt_of_le c (show (0 : Int32) ≤ 1 by decide)) (Int32.not_lt.mpr h1)
  · exact absurd (Int32.le_trans c h2) (by decide)
  · refine ⟨n, e, ?_, by omega⟩
    rcases Nat.eq_zero_or_pos n with z | z
    · rw [e, z] at h1
      exact absurd h1 (by decide)
    · exact z
theorem t_nn {s : Int32} (h : 0 ≤ s) : ∃ n, s = nI n ∧ n < 2147483648 := ⟨s.toNatClampNeg, (Int32.ofNat_toNatClampNeg s h).symm, Int32.toNatClampNeg_lt s⟩
theorem aAud_ok {S : gS} {n s : Nat} {w : Int32} (h1 : 1 ≤ n) (h2 : n ≤ 60) (hs : s < 2147483648) (w0 : 0 ≤ w) (w2 : w ≤ 2) : aAud S (nI n) (nI s) w = (if S 0 0 = 0 then -103 else if w = 0 then nI (gpop ((gau S s n).1 5 0)) else if w = 1 then nI (ginfN (gau S s n).1 (S 0 0)) else nI (gau S s n).2) := by
  unfold aAud
  rw [nI_clamp (show n < 2 ^ 31 by omega), nI_clamp (show s < 2 ^ 31 by omega)]
  exact if_pos ⟨nI_le (a := 1) h1 (by omega), nI_le (b := 60) h2 (by omega), nI_pos' (by omega), w0, w2⟩
section QAU2
variable {d : Nat} {h : qH} {K : qK} {S : gS}
theorem x_audiences {t s w : Int32} (hX : RX h S) (hG : RG S) (hk : ∀ h', Fr lX h h' → RX h' S → K (some (.int (aAud S t s w))) h') : qCall (d + 8) 60 [.ref 0, .int t, .int s, .int w] h K := by
  have hB := hG.1
  have hn0 := hB.1
  have e := hX.1.1
  have bad : ¬ (1 ≤ t ∧ t ≤ 60 ∧ 0 ≤ s ∧ 0 ≤ w ∧ w ≤ 2) → K (some (.int (-102))) h := fun z => by
    have := hk h Fr.rf hX
    unfold aAud at this
    rw [if_neg z] at this
    exact this
  refine call_wp (n := 60) (cut := []) _ (by decide) (Nat.lt_succ_self _) rfl rfl (Nat.le_of_ble_eq_true rfl) rfl ?_
  refine And.intro (fun c1 => bad (fun z => absurd z.1 (Int32.not_le.mpr c1))) (fun c1 => ?_)
  refine And.intro (fun c2 => bad (fun z => absurd z.2.1 (Int32.not_le.mpr c2))) (fun c2 => ?_)
  refine And.intro (fun c3 => bad (fun z => absurd z.2.2.1 (Int32.not_le.mpr c3))) (fun c3 => ?_)
  refine And.intro (fun c4 => bad (fun z => absurd z.2.2.2.1 (Int32.not_le.mpr c4))) (fun c4 => ?_)
  refine And.intro (fun c5 => ?_) (fun c5 => bad (fun z => c5 z.2.2.2.2))
  obtain ⟨n, rfl, n1, n2⟩ := t_60 (Int32.not_lt.mp c1) (Int32.not_lt.mp c2)
  obtain ⟨s, rfl, s1⟩ := t_nn (Int32.not_lt.mp c3)
  rw [aAud_ok n1 n2 s1 (Int32.not_lt.mp c4) c5] at hk
  refine And.intro (fun c6 => ?_) (fun c6 => ?_)
  · have c6 : h.1 3 0 = nI 0 := c6
    rw [e, nI_eq (by omega) (by omega)] at c6
    simp only [if_pos c6] at hk
    exact hk h Fr.rf hX
  · have c6 : ¬ h.1 3 0 = nI 0 := c6
    rw [e, nI_eq (by omega) (by omega)] at c6
    simp only [if_neg c6] at hk
    refine c_copy_11 (fun h1 hc => ?_)
    obtain ⟨z1, z2, z3, z4, z5⟩ := hc
    have r11 : RS 11 h1 S := RS.copy hB hG.2.1 hX.2.1 z2 z3 z4 z5
    have hC1 : RC h1 S := hX.1.fr z1 (by decide) (by decide)
    refine c_holdAudiences hC1 r11 hB (by omega) s1 (by omega) (fun h2 hc2 => ?_)
    obtain ⟨y1, y2⟩ := hc2
    have f2 : Fr [11, 12, 13] h h2 := (z1.mono (by decide)).tr y1
    have hX2 := hX.fr f2
    have hk := hk h2 (f2.mono (by decide)) hX2
    obtain ⟨b1, b2, b3, b4⟩ := gau_ok hB (show 0 < S 0 0 by omega) s1 n
    refine And.intro (fun c7 => ?_) (fun c7 => ?_)
    · have c7 : w = 0 := c7
      rw [if_pos c7] at hk
      show qCall _ 135 [.int (h2.1 11 1)] h2 _
      rw [y2.2.1]
      exact c_bitCount (by have := b1.2.2.2.1; omega) hk
    · have c7 : ¬ w = 0 := c7
      rw [if_neg c7] at hk
      refine And.intro (fun c8 => ?_) (fun c8 => ?_)
      · have c8 : w = 1 := c8
        rw [if_pos c8, ← b2 0 (by decide)] at hk
        exact c_howManyInfer (S := (gau S s n).1) (Or.inr rfl) (hX2.1.S (fun a ha => b2 a (by omega))) y2 b1 hk
      · have c8 : ¬ w = 1 := c8
        rw [if_neg c8] at hk
        exact hk
theorem m_draw {s m : Nat} (hs : s < 2147483648) (h0 : 0 < m) (hm : m < 10) (hk : K (some (.int (nI (gdr (gns s) m)))) (qJ h 15 21 (lN (gns s)))) : qCall (d + 1) 117 [.ref 15, .int (nI m)] (qJ h 15 21 (lN s)) K := by
  have g := gns_lt s
  have e1 : Int64.ofInt 1103515245 * lN s + Int64.ofInt 12345 &&& Int64.ofInt 2147483647 = lN (gns s) := by
    rw [show Int64.ofInt 1103515245 = lN 1103515245 from lN_c 1103515245, show Int64.ofInt 12345 = lN 12345 from lN_c 12345, lN_mul, lN_add, lN_and (by omega)]
    rfl
  refine call_wp (n := 40) (cut := []) _ (by decide) (Nat.lt_succ_self _) rfl rfl (Nat.le_of_ble_eq_true rfl) rfl ?_
  show (¬ Int64.ofInt 65536 = 0) ∧ (¬ (nI m).toInt64 = 0) ∧ K (some (.int (((qJ (qJ h 15 21 (lN s)) 15 21 (Int64.ofInt 1103515245 * (qJ h 15 21 (lN s)).2 15 21 + Int64.ofInt 12345 &&& Int64.ofInt 2147483647)).2 15 21 / Int64.ofInt 65536 - (qJ (qJ h 15 21 (lN s)) 15 21 (Int64.ofInt 1103515245 * (qJ h 15 21 (lN s)).2 15 21 + Int64.ofInt 12345 &&& Int64.ofInt 2147483647)).2 15 21 / Int64.ofInt 65536 / (nI m).toInt64 * (nI m).toInt64).toInt32))) (qJ (qJ h 15 21 (lN s)) 15 21 (Int64.ofInt 1103515245 * (qJ h 15 21 (lN s)).2 15 21 + Int64.ofInt 12345 &&& Int64.ofInt 2147483647))
  rw [qJ_self, qJ_self, e1, qJ_qJ, nI_l (by omega), show Int64.ofInt 65536 = lN 65536 from lN_c 65536, pk_lDiv (by omega) (by decide) (by decide), pk_lRem (by omega) h0 (by omega), lN_i]
  refine ⟨by decide, fun z => ?_, hk⟩
  have := (pk_lEQ (a := m) (b := 0) (by omega) (by omega)).mp z
  omega
end QAU2
end
section
/-! ## audiences: the reference -/
def gmk (S T : gS) : gS := fun x y => if x = 4 then T 4 y else if x = 5 ∧ y = 0 then T 5 0 else S x y
theorem gmk_o {S T : gS} {a : Nat} (h4 : a ≠ 4) (h5 : a ≠ 5) : gmk S T a = S a := by
  funext y
  unfold gmk
  rw [if_neg h4, if_neg (fun z => h5 z.1)]
theorem gmk_4 {S T : gS} : gmk S T 4 = T 4 := by
  funext y
  unfold gmk
  rw [if_pos rfl]
theorem gmk_50 {S T : gS} : gmk S T 5 0 = T 5 0 := by
  unfold gmk
  rw [if_neg (by omega), if_pos ⟨rfl, rfl⟩]
theorem gmk_5 {S T : gS} {y : Nat} (h : y ≠ 0) : gmk S T 5 y = S 5 y := by
  unfold gmk
  rw [if_neg (by omega), if_neg (fun z => h z.2)]
theorem gmk_B {S T : gS} (hB : GB S) (hT : GB T) (e : ∀ a, a < 4 → T a = S a) : GB (gmk S T) := by
  unfold GB
  rw [gmk_o (a := 0) (by decide) (by decide), gmk_o (a := 1) (by decide) (by decide), gmk_o (a := 2) (by decide) (by decide), gmk_o (a := 3) (by decide) (by decide), gmk_4, gmk_50, gmk_5 (by decide), gmk_5 (by decide)]
  refine ⟨hB.1, fun p hp => ⟨(hB.2.1 p hp).1, (hB.2.1 p hp).2.1, (hT.2.1 p (by rw [e 0 (by decide)]; exact hp)).2.2⟩, hB.2.2.1, hT.2.2.2.1, hB.2.2.2.2.1, hB.2.2.2.2.2⟩
theorem ginf_c {A B : gS} (e1 : A 1 = B 1) (e2 : A 2 = B 2) (e3 : A 3 = B 3) (p s : Nat) : ginf A p s = ginf B p s := by
  unfold ginf gtog
  rw [e1, e2, e3]
theorem gcan_c {A B : gS} (e4 : A 4 = B 4) (e5 : A 5 0 = B 5 0) (f t s : Nat) : gcan A f t s = gcan B f t s := by
  unfold gcan
  rw [e4, e5]
theorem ghang_c {A B : gS} (e1 : A 1 = B 1) (e2 : A 2 = B 2) (e3 : A 3 = B 3) (e4 : A 4 = B 4) (e5 : A 5 2 = B 5 2) (f t s : Nat) : ghang A f t s = ghang B f t s := by
  unfold ghang gnew gking
  rw [ginf_c e1 e2 e3, ginf_c e1 e2 e3, e1, e4, e5]
theorem ginfN_c {A B : gS} (e1 : A 1 = B 1) (e2 : A 2 = B 2) (e3 : A 3 = B 3) (e4 : A 4 = B 4) : ∀ n, ginfN A n = ginfN B n
  | 0 => rfl
  | n + 1 => by rw [ginfN, ginfN, ginf_c e1 e2 e3, e4, ginfN_c e1 e2 e3 e4 n]
section QAU3
variable {d : Nat} {h : qH} {K : qK} {S : gS}
theorem RMc.h8 {v : Nat} (hM : RMc h S) : RMc (qI h 15 8 (nI v)) (sS S 5 0 v) := by
  obtain ⟨m1, m2, m3, m4, m5, m6, m7, m8, m9⟩ := hM
  have so : ∀ a, a ≠ 5 → sS S 5 0 v a = S a := fun a h1 => sS_ne h1
  have hs : ∀ a, a ≠ 15 → (qI h 15 8 (nI v)).1 a = h.1 a := fun a h1 => qI_ne h1
  have h15 : ∀ k, k ≠ 8 → (qI h 15 8 (nI v)).1 15 k = h.1 15 k := fun k hk => by rw [qI_get, if_neg (fun z => hk z.2)]
  have s5 : ∀ y, y ≠ 0 → sS S 5 0 v 5 y = S 5 y := fun y hy => sS_nb hy
  have ej : (qI h 15 8 (nI v)).1 15 8 = nI v := by rw [qI_get, if_pos ⟨rfl, rfl⟩]
  have es : sS S 5 0 v 5 0 = v := sS_eq
  unfold RMc
  rw [so 0 (by decide), so 1 (by decide), so 2 (by decide), so 3 (by decide), so 4 (by decide), so 6 (by decide), so 7 (by decide), so 8 (by decide), so 9 (by decide), hs 16 (by decide), hs 17 (by decide), hs 18 (by decide), hs 19 (by decide), hs 20 (by decide), hs 21 (by decide), hs 22 (by decide), hs 23 (by decide)]
  rw [h15 1 (by decide), h15 7 (by decide), h15 9 (by decide), h15 10 (by decide), h15 11 (by decide), s5 1 (by decide), s5 2 (by decide), s5 3 (by decide), s5 4 (by decide), ej, es]
  exact ⟨m1, m2, m3, m4, rfl, m6, m7, m8, m9⟩
theorem l_save (hk : ∀ h1, Fr [25] h h1 → (∀ p, p < 4 → h1.1 25 p = h.1 18 p) → K none h1) : ∀ m n, n + m = 4 → ∀ h1, Fr [25] h h1 → (∀ p, p < n → h1.1 25 p = h.1 18 p) → qAt (d, 100, none, q0, K) 2 [some (.ref 15), some (.int (nI n))] [] h1 := by
  intro m
  induction m with
  | zero =>
    intro n hn h1 z1 z2
    have hn : n = 4 := by omega
    subst hn
    refine at_wp [] 12 (Nat.le_of_ble_eq_true rfl) rfl ?_
    refine And.intro (fun _ => ?_) (fun c => absurd (by decide) c)
    exact hk h1 z1 z2
  | succ m ih =>
    intro n hn h1 z1 z2
    have ec : (nI n).toNatClampNeg = n := nI_clamp (by omega)
    refine at_wp [2] 40 (Nat.le_of_ble_eq_true rfl) rfl ?_
    refine And.intro (fun c => absurd c (nI_ge (a := n) (b := 4) (by omega) (by decide))) (fun _ => ?_)
    refine And.intro (vp_in_nI (by omega) (by decide)) ?_
    refine And.intro (vp_in_nI (by omega) (by decide)) ?_
    have ih := ih (n + 1) (by omega) (qI h1 25 n (h1.1 18 n)) (z1.I (by decide)) (fun p hp => by
      rw [qI_get, z1.1 18 (by decide)]
      by_cases e : p = n
      · rw [if_pos ⟨rfl, e⟩, e]
      · rw [if_neg (fun w => e w.2)]
        exact z2 p (by omega))
    rw [← nI_1] at ih
    show qAt _ 2 [some (.ref 15), some (.int (nI n + 1))] [] (qI h1 25 (nI n).toNatClampNeg (h1.1 18 (nI n).toNatClampNeg))
    rw [ec]
    exact ih
theorem m_save (hk : ∀ h1, Fr [25] h h1 → (∀ p, p < 4 → h1.1 25 p = h.1 18 p) → K none h1) : qCall (d + 1) 100 [.ref 15] h K := by
  refine call_wp (n := 20) (cut := [2]) _ (by decide) (Nat.lt_succ_self _) rfl rfl (Nat.le_of_ble_eq_true rfl) rfl ?_
  exact l_save hk 4 0 rfl h Fr.rf (fun p hp => by omega)
theorem l_load (hk : ∀ h1, Fr [18] h h1 → (∀ p, p < 4 → h1.1 18 p = h.1 25 p) → K none h1) : ∀ m n, n + m = 4 → ∀ h1, Fr [18] h h1 → (∀ p, p < n → h1.1 18 p = h.1 25 p) → qAt (d, 101, none, q0, K) 2 [some (.ref 15), some (.int (nI n))] [] h1 := by
  intro m
  induction m with
  | zero =>
    intro n hn h1 z1 z2
    have hn : n = 4 := by omega
    subst hn
    refine at_wp [] 12 (Nat.le_of_ble_eq_true rfl) rfl ?_
    refine And.intro (fun _ => ?_) (fun c => absurd (by decide) c)
    exact hk h1 z1 z2
  | succ m ih =>
    intro n hn h1 z1 z2
    have ec : (nI n).toNatClampNeg = n := nI_clamp (by omega)
    refine at_wp [2] 40 (Nat.le_of_ble_eq_true rfl) rfl ?_
    refine And.intro (fun c => absurd c (nI_ge (a := n) (b := 4) (by omega) (by decide))) (fun _ => ?_)
    refine And.intro (vp_in_nI (by omega) (by decide)) ?_
    refine And.intro (vp_in_nI (by omega) (by decide)) ?_
    have ih := ih (n + 1) (by omega) (qI h1 18 n (h1.1 25 n)) (z1.I (by decide)) (fun p hp => by
      rw [qI_get, z1.1 25 (by decide)]
      by_cases e : p = n
      · rw [if_pos ⟨rfl, e⟩, e]
      · rw [if_neg (fun w => e w.2)]
        exact z2 p (by omega))
    rw [← nI_1] at ih
    show qAt _ 2 [some (.ref 15), some (.int (nI n + 1))] [] (qI h1 18 (nI n).toNatClampNeg (h1.1 25 (nI n).toNatClampNeg))
    rw [ec]
    exact ih
theorem m_load (hk : ∀ h1, Fr [18] h h1 → (∀ p, p < 4 → h1.1 18 p = h.1 25 p) → K none h1) : qCall (d + 1) 101 [.ref 15] h K := by
  refine call_wp (n := 20) (cut := [2]) _ (by decide) (Nat.lt_succ_self _) rfl rfl (Nat.le_of_ble_eq_true rfl) rfl ?_
  exact l_load hk 4 0 rfl h Fr.rf (fun p hp => by omega)
end QAU3
end
section
/-! ## audiences: the reference's answer -/
def auM (h : qH) (S : gS) (s n : Nat) (g : qH) : Prop := (∀ a, a ≠ 15 → a ≠ 18 → a ≠ 25 → g.1 a = h.1 a) ∧ (∀ k, k ≠ 8 → g.1 15 k = h.1 15 k) ∧ (∀ p, p < 4 → g.1 25 p = h.1 18 p) ∧ RMc g (gmk S (gau S s n).1)
theorem gmk_pass {S T : gS} {f t s : Nat} (a : Nat) (ha : a < 10) : gmk S (gpass T f t s) a = sS (sS (gmk S T) 5 0 (if ghang T f t s then T 5 0 ||| 1 <<< f else T 5 0)) 4 t (T 4 t ||| 1 <<< s) a := by
  funext y
  by_cases a4 : a = 4
  · subst a4
    rw [gmk_4]
    by_cases yt : y = t
    · subst yt
      rw [sS_eq]
      unfold gpass
      rw [if_pos ⟨rfl, rfl⟩]
    · rw [sS_nb yt, sS_ne (by decide), gmk_4]
      unfold gpass
      rw [if_neg (fun z => yt z.2), if_neg (by omega), if_neg (by omega), if_neg (by omega), if_neg (by omega)]
  · rw [sS_ne a4]
    by_cases a5 : a = 5
    · subst a5
      by_cases y0 : y = 0
      · subst y0
        rw [sS_eq, gmk_50]
        unfold gpass
        rw [if_neg (by omega), if_pos ⟨rfl, rfl⟩]
      · rw [sS_nb y0, gmk_5 y0, gmk_5 y0]
    · rw [sS_ne a5, gmk_o a4 a5, gmk_o a4 a5]
section QAU4
variable {d : Nat} {h : qH} {K : qK} {S : gS}
theorem RMc.ps {T : gS} {f t s : Nat} {v : Int32} (hM : RMc h (gmk S T)) (hB : GB (gmk S T)) (ht : t < S 0 0) (hs : s < 4) (hv : v = nI (if ghang T f t s then T 5 0 ||| 1 <<< f else T 5 0)) : RMc (qI (qI h 15 8 v) 18 t (h.1 18 t ||| (1 <<< (nI s &&& 31)))) (gmk S (gpass T f t s)) := by
  have e4 : gmk S T 4 t = T 4 t := by rw [gmk_4]
  have r1 := RMc.h8 (v := (if ghang T f t s then T 5 0 ||| 1 <<< f else T 5 0)) hM
  rw [← hv] at r1
  have k4 := (hB.2.1 t (by rw [gmk_o (by decide) (by decide)]; exact ht)).2.2
  rw [e4] at k4
  have e0 : gmk S (gpass T f t s) 0 = S 0 := gmk_o (by decide) (by decide)
  refine RMc.S (S := sS (sS (gmk S T) 5 0 (if ghang T f t s then T 5 0 ||| 1 <<< f else T 5 0)) 4 t (T 4 t ||| 1 <<< s)) ?_ gmk_pass
  obtain ⟨m1, m2, m3, m4, m5, m6, m7, m8, m9⟩ := r1
  have e : ∀ a, a ≠ 18 → (qI (qI h 15 8 v) 18 t (h.1 18 t ||| (1 <<< (nI s &&& 31)))).1 a = (qI h 15 8 v).1 a := fun a ha => qI_ne ha
  have g : ∀ a, a ≠ 4 → sS (sS (gmk S T) 5 0 (if ghang T f t s then T 5 0 ||| 1 <<< f else T 5 0)) 4 t (T 4 t ||| 1 <<< s) a = sS (gmk S T) 5 0 (if ghang T f t s then T 5 0 ||| 1 <<< f else T 5 0) a := fun a ha => sS_ne ha
  unfold RMc
  rw [e 15 (by decide), e 16 (by decide), e 17 (by decide), e 19 (by decide), e 20 (by decide), e 21 (by decide), e 22 (by decide), e 23 (by decide), g 0 (by decide), g 1 (by decide), g 2 (by decide), g 3 (by decide), g 5 (by decide), g 6 (by decide), g 7 (by decide), g 8 (by decide), g 9 (by decide)]
  refine ⟨m1, fun p hp => ⟨(m2 p hp).1, (m2 p hp).2.1, ?_, (m2 p hp).2.2.2⟩, m3, m4, m5, m6, m7, m8, m9⟩
  have m2p := (m2 p hp).2.2.1
  rw [qI_ne (by decide), sS_ne (by decide)] at m2p
  rw [qI_get]
  by_cases z : p = t
  · rw [if_pos ⟨rfl, z⟩, z, sS_eq]
    rw [z, e4] at m2p
    rw [m2p, bit_or _ k4 s hs]
  · rw [if_neg (fun w => z w.2), sS_nb z, qI_ne (by decide), sS_ne (by decide)]
    exact m2p
theorem l_am {s N : Nat} {u w we : Option Value} (hM : RM h S) (hG : RG S) (h0 : 0 < S 0 0) (hs : s < 2147483648) (hN : N < 100) (hk : ∀ g x y z, auM h S s N g → qAt (d + 4, 119, some .int, q0, K) 62 [some (.ref 15), some (.int (nI N)), u, w, we, some (.int (nI N)), x, y, z] [] (qJ g 15 21 (lN (gau S s N).2))) (hwe : ∃ v, we = some (.int v)) : ∀ m n, n + m = N → ∀ g x y z, auM h S s n g → qAt (d + 4, 119, some .int, q0, K) 11 [some (.ref 15), some (.int (nI N)), u, w, we, some (.int (nI n)), x, y, z] [] (qJ g 15 21 (lN (gau S s n).2)) := by
  have hB := hG.1
  have hn0 := hB.1
  obtain ⟨wv, rfl⟩ := hwe
  intro m
  induction m with
  | zero =>
    intro n hn g x y z hc
    have hn : n = N := by omega
    subst hn
    refine at_wp [62] 12 (Nat.le_of_ble_eq_true rfl) rfl ?_
    refine And.intro (fun _ => ?_) (fun c => absurd (nI_le (Nat.le_refl _) (by omega)) c)
    exact hk g x y z hc
  | succ m ih =>
    intro n hn g x y z hc
    obtain ⟨b1, b2, b3, b4⟩ := gau_ok hB h0 hs n
    obtain ⟨c1, c2, c3, c4⟩ := id hc
    have e : g.1 15 1 = nI (S 0 0) := by rw [c2 1 (by decide)]; exact hM.1.1
    have e0 : gmk S (gau S s n).1 0 0 = S 0 0 := by rw [gmk_o (by decide) (by decide)]
    have bB : GB (gmk S (gau S s n).1) := gmk_B hB b1 b2
    have q4 : gmk S (gau S s n).1 4 = (gau S s n).1 4 := gmk_4
    have q50 : gmk S (gau S s n).1 5 0 = (gau S s n).1 5 0 := gmk_50
    have q52 : gmk S (gau S s n).1 5 2 = (gau S s n).1 5 2 := by rw [gmk_5 (by decide), b3]
    have q1 : gmk S (gau S s n).1 1 = (gau S s n).1 1 := by rw [gmk_o (by decide) (by decide), b2 1 (by decide)]
    have q2 : gmk S (gau S s n).1 2 = (gau S s n).1 2 := by rw [gmk_o (by decide) (by decide), b2 2 (by decide)]
    have q3 : gmk S (gau S s n).1 3 = (gau S s n).1 3 := by rw [gmk_o (by decide) (by decide), b2 3 (by decide)]
    obtain ⟨F, eF⟩ : ∃ F, F = gdr (gns (gau S s n).2) (S 0 0) := ⟨_, rfl⟩
    obtain ⟨G, eG⟩ : ∃ G, G = gdr (gns (gns (gau S s n).2)) (S 0 0) := ⟨_, rfl⟩
    obtain ⟨Q, eQ⟩ : ∃ Q, Q = gdr (gns (gns (gns (gau S s n).2))) 4 := ⟨_, rfl⟩
    have lF : F < S 0 0 := by rw [eF]; exact Nat.mod_lt _ h0
    have lG : G < S 0 0 := by rw [eG]; exact Nat.mod_lt _ h0
    have lQ : Q < 4 := by rw [eQ]; exact Nat.mod_lt _ (by decide)
    have ecG : (nI G).toNatClampNeg = G := nI_clamp (by omega)
    have st2 : (gau S s (n + 1)).2 = gns (gns (gns (gau S s n).2)) := rfl
    have st1 : (gau S s (n + 1)).1 = (if gcan (gau S s n).1 F G Q then gpass (gau S s n).1 F G Q else (gau S s n).1) := by rw [gau, eF, eG, eQ]; rfl
    refine at_wp [11] 140 (Nat.le_of_ble_eq_true rfl) rfl ?_
    refine And.intro (fun c => absurd c (nI_ge (by omega) (by omega))) (fun _ => ?_)
    show qCall _ 117 [.ref 15, .int (g.1 15 1)] (qJ g 15 21 (lN (gau S s n).2)) _
    rw [e]
    refine m_draw b4 h0 (by omega) ?_
    rw [← eF]
    show qCall _ 117 [.ref 15, .int (g.1 15 1)] (qJ g 15 21 (lN (gns (gau S s n).2))) _
    rw [e]
    refine m_draw (gns_lt _) h0 (by omega) ?_
    rw [← eG]
    show qCall _ 117 [.ref 15, .int (nI 4)] (qJ g 15 21 (lN (gns (gns (gau S s n).2)))) _
    refine m_draw (gns_lt _) (by decide) (by decide) ?_
    rw [← eQ]
    refine m_canTell (h := qJ g 15 21 _) (S := gmk S (gau S s n).1) c4 bB (by rw [e0]; exact lF) (by rw [e0]; exact lG) lQ (fun b => ?_) (fun b => ?_)
    · rw [gcan_c q4 q50] at b
      refine And.intro (fun c => absurd c (by decide)) (fun _ => ?_)
      have fin : ∀ v, v = nI (if ghang (gau S s n).1 F G Q then (gau S s n).1 5 0 ||| 1 <<< F else (gau S s n).1 5 0) → qAt (d + 4, 119, some .int, q0, K) 11 [some (.ref 15), some (.int (nI N)), u, w, some (.int wv), some (.int (nI n + 1)), some (.int (nI F)), some (.int (nI G)), some (.int (nI Q))] [] (qJ (qI (qI g 15 8 v) 18 G (g.1 18 G ||| (1 <<< (nI Q &&& 31)))) 15 21 (lN (gns (gns (gns (gau S s n).2))))) := fun v hv => by
        have := ih (n + 1) (by omega) (qI (qI g 15 8 v) 18 G (g.1 18 G ||| (1 <<< (nI Q &&& 31)))) (some (.int (nI F))) (some (.int (nI G))) (some (.int (nI Q))) ⟨fun a a1 a2 a3 => by rw [qI_ne a2, qI_ne a1]; exact c1 a a1 a2 a3, fun k hk => by rw [qI_ne (by decide), qI_get, if_neg (fun z => hk z.2)]; exact c2 k hk, fun p hp => by rw [qI_ne (by decide), qI_ne (by decide)]; exact c3 p hp, by rw [st1, if_pos b]; exact RMc.ps c4 bB lG lQ hv⟩
        rw [← nI_1, st2] at this
        exact this
      have h8 : g.1 15 8 = nI ((gau S s n).1 5 0) := by rw [c4.2.2.2.2.1, q50]
      have l8 := b1.2.2.2.1
      refine m_isHanging (h := qJ g 15 21 _) (S := gmk S (gau S s n).1) c4 bB (by rw [e0]; exact lF) (by rw [e0]; exact lG) lQ (fun b' => ?_) (fun b' => ?_)
      · rw [ghang_c q1 q2 q3 q4 q52] at b'
        refine And.intro (fun c => absurd c (by decide)) (fun _ => ?_)
        refine And.intro (vp_in_nI (by omega) (by decide)) ?_
        refine And.intro (vp_in_nI (by omega) (by decide)) ?_
        have := fin (g.1 15 8 ||| (1 <<< (nI F &&& 31))) (by rw [if_pos b', h8, bit_or _ l8 F (by omega)])
        rw [← ecG] at this
        rw [ecG] at this
        show qAt _ 11 [some (.ref 15), some (.int (nI N)), u, w, some (.int wv), some (.int (nI n + 1)), some (.int (nI F)), some (.int (nI G)), some (.int (nI Q))] [] (qJ (qI (qI g 15 8 (g.1 15 8 ||| (1 <<< (nI F &&& 31)))) 18 (nI G).toNatClampNeg (g.1 18 (nI G).toNatClampNeg ||| (1 <<< (nI Q &&& 31)))) 15 21 (lN (gns (gns (gns (gau S s n).2)))))
        rw [ecG]
        exact this
      · rw [ghang_c q1 q2 q3 q4 q52] at b'
        refine And.intro (fun _ => ?_) (fun c => absurd rfl c)
        refine And.intro (vp_in_nI (by omega) (by decide)) ?_
        refine And.intro (vp_in_nI (by omega) (by decide)) ?_
        have := fin (g.1 15 8 ||| 0) (by rw [if_neg (by rw [b']; decide), h8, Int32.or_zero])
        show qAt _ 11 [some (.ref 15), some (.int (nI N)), u, w, some (.int wv), some (.int (nI n + 1)), some (.int (nI F)), some (.int (nI G)), some (.int (nI Q))] [] (qJ (qI (qI g 15 8 (g.1 15 8 ||| 0)) 18 (nI G).toNatClampNeg (g.1 18 (nI G).toNatClampNeg ||| (1 <<< (nI Q &&& 31)))) 15 21 (lN (gns (gns (gns (gau S s n).2)))))
        rw [ecG]
        exact this
    · rw [gcan_c q4 q50] at b
      refine And.intro (fun _ => ?_) (fun c => absurd rfl c)
      have := ih (n + 1) (by omega) g (some (.int (nI F))) (some (.int (nI G))) (some (.int (nI Q))) ⟨c1, c2, c3, by rw [st1, if_neg (by rw [b]; decide)]; exact c4⟩
      rw [← nI_1, st2] at this
      exact this
end QAU4
end
section
/-! ## audiences: the reference's answer, end -/
def auA (S : gS) (n s : Nat) (w : Int32) : Int32 := if w = 0 then nI (gpop ((gau S s n).1 5 0)) else if w = 1 then nI (ginfN (gau S s n).1 (S 0 0)) else nI (gau S s n).2
section QAU5
variable {d : Nat} {h : qH} {K : qK} {S : gS}
theorem m_audiencesNow {n s : Nat} {w : Int32} (hM : RM h S) (hG : RG S) (h0 : 0 < S 0 0) (hs : s < 2147483648) (hN : n < 100) (hk : ∀ h', (∀ a, a ∉ lM → h'.1 a = h.1 a) → RM h' S → K (some (.int (auA S n s w))) h') : qCall (d + 5) 119 [.ref 15, .int (nI n), .int (nI s), .int w] h K := by
  have hB := hG.1
  have hn0 := hB.1
  refine call_wp (n := 40) (cut := [11]) _ (by decide) (Nat.lt_succ_self _) rfl rfl (Nat.le_of_ble_eq_true rfl) rfl ?_
  refine m_save (fun h1 f1 s1 => ?_)
  have e15 : h1.1 15 = h.1 15 := f1.1 15 (by decide)
  have base : auM h S s 0 h1 := ⟨fun a a1 a2 a3 => f1.1 a (by simp; exact a3), fun k _ => by rw [e15], s1, by
    have : RMc h1 S := hM.1.h (fun k _ => by rw [e15]) (fun a a1 a2 => f1.1 a (by simp; omega))
    refine this.S (fun a ha => ?_)
    show gmk S S a = S a
    funext y
    unfold gmk
    split
    · rename_i z
      rw [z]
    · split
      · rename_i z
        rw [z.1, z.2]
      · rfl⟩
  have go := l_am (K := K) (d := d) (s := s) (N := n) (u := some (.int (nI s))) (w := some (.int w)) (we := some (.int (h1.1 15 8))) hM hG h0 hs hN (fun g x y z hc => ?_) ⟨_, rfl⟩ n 0 (by omega) h1 none none none base
  · rw [show (gau S s 0).2 = s from rfl, ← nI_l (by omega)] at go
    exact go
  · obtain ⟨b1, b2, b3, b4⟩ := gau_ok hB h0 hs n
    obtain ⟨c1, c2, c3, c4⟩ := id hc
    have bB : GB (gmk S (gau S s n).1) := gmk_B hB b1 b2
    have q4 : gmk S (gau S s n).1 4 = (gau S s n).1 4 := gmk_4
    have q50 : gmk S (gau S s n).1 5 0 = (gau S s n).1 5 0 := gmk_50
    have q0' : gmk S (gau S s n).1 0 0 = S 0 0 := by rw [gmk_o (by decide) (by decide)]
    have q1 : gmk S (gau S s n).1 1 = (gau S s n).1 1 := by rw [gmk_o (by decide) (by decide), b2 1 (by decide)]
    have q2 : gmk S (gau S s n).1 2 = (gau S s n).1 2 := by rw [gmk_o (by decide) (by decide), b2 2 (by decide)]
    have q3 : gmk S (gau S s n).1 3 = (gau S s n).1 3 := by rw [gmk_o (by decide) (by decide), b2 3 (by decide)]
    refine at_wp [] 60 (Nat.le_of_ble_eq_true rfl) rfl ?_
    show qCall _ 75 [.int (g.1 15 8)] (qJ g 15 21 (lN (gau S s n).2)) _
    rw [c4.2.2.2.2.1, q50]
    refine m_size b1.2.2.2.1 ?_
    refine m_inferring (h := qJ g 15 21 _) (S := gmk S (gau S s n).1) c4 bB ?_
    rw [ginfN_c q1 q2 q3 q4, q0']
    refine m_load (h := qJ (qI g 15 8 (h1.1 15 8)) 15 21 (lN (gau S s n).2)) (fun h3 f3 s3 => ?_)
    have g15 : h3.1 15 = h.1 15 := by
      rw [f3.1 15 (by decide)]
      funext k
      show (qI g 15 8 (h1.1 15 8)).1 15 k = h.1 15 k
      rw [qI_get]
      by_cases z : k = 8
      · rw [if_pos ⟨rfl, z⟩, e15, z]
      · rw [if_neg (fun v => z v.2)]
        exact c2 k z
    have go : ∀ a, a ≠ 15 → a ≠ 18 → a ≠ 25 → h3.1 a = h.1 a := fun a a1 a2 a3 => by
      rw [f3.1 a (by simp; exact a2)]
      show (qI g 15 8 (h1.1 15 8)).1 a = h.1 a
      rw [qI_ne a1]
      exact c1 a a1 a2 a3
    have g18 : ∀ p, p < 4 → h3.1 18 p = h.1 18 p := fun p hp => by
      rw [s3 p hp]
      show (qI g 15 8 (h1.1 15 8)).1 25 p = h.1 18 p
      rw [qI_ne (by decide)]
      exact c3 p hp
    have hR : RMc h3 S := by
      obtain ⟨m1, m2, m3, m4, m5, m6, m7, m8, m9⟩ := hM.1
      unfold RMc
      rw [g15, go 16 (by decide) (by decide) (by decide), go 17 (by decide) (by decide) (by decide), go 19 (by decide) (by decide) (by decide), go 20 (by decide) (by decide) (by decide), go 21 (by decide) (by decide) (by decide), go 22 (by decide) (by decide) (by decide), go 23 (by decide) (by decide) (by decide)]
      exact ⟨m1, fun p hp => ⟨(m2 p hp).1, (m2 p hp).2.1, by rw [g18 p (by omega)]; exact (m2 p hp).2.2.1, (m2 p hp).2.2.2⟩, m3, m4, m5, m6, m7, m8, m9⟩
    have hk := hk h3 (fun a ha => go a (fun z => ha (by rw [z]; decide)) (fun z => ha (by rw [z]; decide)) (fun z => ha (by rw [z]; decide))) (hM.scene (fun k _ _ => by rw [g15]) (fun a ha => go a (by omega) (by omega) (by omega)) hR (fun a _ => rfl))
    unfold auA at hk
    refine And.intro (fun c7 => ?_) (fun c7 => ?_)
    · have c7 : w = 0 := c7
      rw [if_pos c7] at hk
      exact hk
    · have c7 : ¬ w = 0 := c7
      rw [if_neg c7] at hk
      refine And.intro (fun c8 => ?_) (fun c8 => ?_)
      · have c8 : w = 1 := c8
        rw [if_pos c8] at hk
        exact hk
      · have c8 : ¬ w = 1 := c8
        rw [if_neg c8] at hk
        show K (some (.int (h3.2 15 21).toInt32)) h3
        rw [f3.2, qJ_self, lN_i]
        exact hk
theorem m_audiences {t s w : Int32} (hM : RM h S) (hG : RG S) (hk : ∀ h', (∀ a, a ∉ lM → h'.1 a = h.1 a) → RM h' S → K (some (.int (aAud S t s w))) h') : qCall (d + 6) 120 [.ref 15, .int t, .int s, .int w] h K := by
  have hB := hG.1
  have hn0 := hB.1
  have e := hM.1.1
  have bad : ¬ (1 ≤ t ∧ t ≤ 60 ∧ 0 ≤ s ∧ 0 ≤ w ∧ w ≤ 2) → K (some (.int (-102))) h := fun z => by
    have := hk h (fun _ _ => rfl) hM
    unfold aAud at this
    rw [if_neg z] at this
    exact this
  refine call_wp (n := 60) (cut := []) _ (by decide) (Nat.lt_succ_self _) rfl rfl (Nat.le_of_ble_eq_true rfl) rfl ?_
  refine m_within (lo := 1) (hi := 60) (by decide) (by decide) (fun n n1 n2 en => ?_) (fun c1 => ?_)
  · subst en
    refine And.intro (fun c => absurd c (by decide)) (fun _ => ?_)
    refine And.intro (fun c3 => bad (fun z => absurd z.2.2.1 (Int32.not_le.mpr c3))) (fun c3 => ?_)
    obtain ⟨s, rfl, s1⟩ := t_nn (Int32.not_lt.mp c3)
    refine m_within (lo := 0) (hi := 2) (by decide) (by decide) (fun k _ k2 ek => ?_) (fun c4 => ?_)
    · subst ek
      refine And.intro (fun c => absurd c (by decide)) (fun _ => ?_)
      rw [aAud_ok n1 n2 s1 (nI_pos' (by omega)) (nI_le (b := 2) k2 (by decide))] at hk
      refine And.intro (fun c6 => ?_) (fun c6 => ?_)
      · have c6 : h.1 15 1 = nI 0 := c6
        rw [e, nI_eq (by omega) (by omega)] at c6
        simp only [if_pos c6] at hk
        exact hk h (fun _ _ => rfl) hM
      · have c6 : ¬ h.1 15 1 = nI 0 := c6
        rw [e, nI_eq (by omega) (by omega)] at c6
        simp only [if_neg c6] at hk
        exact m_audiencesNow hM hG (by omega) s1 (by omega) hk
    · refine And.intro (fun _ => ?_) (fun c => absurd rfl c)
      refine bad (fun z => ?_)
      obtain ⟨k, rfl, k1⟩ := t_nn z.2.2.2.1
      refine c4 k (Nat.zero_le _) ?_ rfl
      rcases Nat.lt_or_ge 2 k with q | q
      · exact absurd z.2.2.2.2 (nI_ge (a := 2) q (by omega))
      · exact q
  · refine And.intro (fun _ => ?_) (fun c => absurd rfl c)
    refine bad (fun z => ?_)
    obtain ⟨n, rfl, n1, n2⟩ := t_60 z.1 z.2.1
    exact c1 n n1 n2 rfl
end QAU5
end
section
/-! ## plans: words as codes, the first such -/
def gok (S : gS) (w : Nat) : Bool := decide (w / 16 < S 0 0) && decide (w / 4 % 4 < S 0 0) && gcan S (w / 16) (w / 4 % 4) (w % 4) && !ghang S (w / 16) (w / 4 % 4) (w % 4)
def glrn (S : gS) (w : Nat) : gS := sS S 4 (w / 4 % 4) (S 4 (w / 4 % 4) ||| 1 <<< (w % 4))
def gP (k : Nat) : Nat → gS → Nat → Bool
  | 0, S, _ => ginf S k (S 4 k)
  | r + 1, S, c => gok S (c / 64 ^ r) && gP k r (glrn S (c / 64 ^ r)) (c % 64 ^ r)
def gPp (k : Nat) : Nat → gS → Nat → Bool
  | 0, S, _ => ginf S k (S 4 k)
  | r + 1, S, c => gok S (c / 64 ^ r) && (r != 0 || c / 64 ^ r / 4 % 4 == k) && gPp k r (glrn S (c / 64 ^ r)) (c % 64 ^ r)
def gff (p : Nat → Bool) : Nat → Option Nat
  | 0 => none
  | n + 1 => match gff p n with
    | some c => some c
    | none => if p n then some n else none
def gfew (S : gS) (k : Nat) : Nat → Option (Nat × Nat)
  | 0 => none
  | m + 1 => match gfew S k m with
    | some x => some x
    | none => match gff (gP k m S) (64 ^ m) with
      | some c => some (m, c)
      | none => none
theorem gff_none {p : Nat → Bool} : ∀ N, (∀ c, c < N → p c = false) → gff p N = none
  | 0, _ => rfl
  | n + 1, h => by
    rw [gff, gff_none n (fun c hc => h c (by omega))]
    simp [h n (by omega)]
theorem gff_some {p : Nat → Bool} {c : Nat} (hc : p c = true) (hl : ∀ x, x < c → p x = false) : ∀ N, c < N → gff p N = some c
  | 0, h => by omega
  | n + 1, h => by
    rw [gff]
    by_cases e : c = n
    · subst e
      rw [gff_none c hl]
      simp [hc]
    · rw [gff_some hc hl n (by omega)]
theorem gff_of_none {p : Nat → Bool} : ∀ N, gff p N = none → ∀ c, c < N → p c = false
  | 0, _, c, hc => by omega
  | n + 1, h, c, hc => by
    rw [gff] at h
    cases e : gff p n with
    | some x => rw [e] at h; simp at h
    | none =>
      rw [e] at h
      by_cases z : c = n
      · subst z
        cases pc : p c with
        | false => rfl
        | true => rw [pc] at h; simp at h
      · exact gff_of_none n e c (by omega)
theorem cd_div {w r x : Nat} (hx : x < 64 ^ r) : (w * 64 ^ r + x) / 64 ^ r = w := by
  rw [Nat.mul_comm, Nat.mul_add_div (Nat.pow_pos (by decide)), Nat.div_eq_of_lt hx, Nat.add_zero]
theorem cd_mod {w r x : Nat} (hx : x < 64 ^ r) : (w * 64 ^ r + x) % 64 ^ r = x := by
  rw [Nat.mul_comm, Nat.mul_add_mod, Nat.mod_eq_of_lt hx]
theorem cd_lt {w r x : Nat} (hw : w < 64) (hx : x < 64 ^ r) : w * 64 ^ r + x < 64 ^ (r + 1) := by
  have : (w + 1) * 64 ^ r ≤ 64 * 64 ^ r := Nat.mul_le_mul_right _ hw
  rw [Nat.pow_succ, Nat.mul_comm (64 ^ r) 64]
  rw [Nat.add_mul, Nat.one_mul] at this
  omega
theorem cd_w {r c : Nat} (hc : c < 64 ^ (r + 1)) : c / 64 ^ r < 64 := by
  rw [Nat.pow_succ, Nat.mul_comm] at hc
  exact Nat.div_lt_of_lt_mul (by rw [Nat.mul_comm]; exact hc)
theorem glrn_o {S : gS} {w a : Nat} (h : a ≠ 4) : glrn S w a = S a := sS_ne h
theorem glrn_nb {S : gS} {w k : Nat} (h : w / 4 % 4 ≠ k) : ginf (glrn S w) k (glrn S w 4 k) = ginf S k (S 4 k) := by
  rw [ginf_c (B := S) (glrn_o (by decide)) (glrn_o (by decide)) (glrn_o (by decide))]
  unfold glrn
  rw [sS_nb (fun z => h z.symm)]
theorem prune_eq {k : Nat} : ∀ r S, (∀ c, c < 64 ^ r → gP k r S c = false) → ∀ c, c < 64 ^ (r + 1) → gPp k (r + 1) S c = gP k (r + 1) S c
  | 0, S, h, c, hc => by
    have h0 := h 0 (by decide)
    rw [gP] at h0
    simp only [gPp, gP]
    by_cases e : c / 64 ^ 0 / 4 % 4 = k
    · rw [e]
      simp
    · rw [glrn_nb e, h0]
      simp
  | r + 1, S, h, c, hc => by
    have lw : c / 64 ^ (r + 1) < 64 := cd_w hc
    rw [gPp, gP]
    cases g : gok S (c / 64 ^ (r + 1)) with
    | false => rfl
    | true =>
      rw [prune_eq r (glrn S (c / 64 ^ (r + 1))) (fun x hx => ?_) _ (Nat.mod_lt _ (Nat.pow_pos (by decide)))]
      · simp
      · have := h (c / 64 ^ (r + 1) * 64 ^ r + x) (cd_lt lw hx)
        rw [gP, cd_div hx, cd_mod hx, g] at this
        simpa using this
end
section
/-! ## plans: the class's search -/
theorem w_f : ∀ w, w < 64 → nI w >>> ((4 : Int32) &&& 31) = nI (w / 16) := by decide +kernel
theorem w_t : ∀ w, w < 64 → nI w >>> ((2 : Int32) &&& 31) &&& 3 = nI (w / 4 % 4) := by decide +kernel
theorem w_s : ∀ w, w < 64 → nI w &&& 3 = nI (w % 4) := by decide +kernel
def FI (h h1 : qH) (p0 : Nat) : Prop := Fr [14] h h1 ∧ ∀ i, i < p0 → h1.1 14 i = h.1 14 i
def FOk (d r k : Nat) : Prop := ∀ (S : gS) (h : qH) (K : qK) (p0 : Nat), p0 + r ≤ 3 → RC h S → RS 11 h S → GB S → k < S 0 0 → (∀ h' c, FI h h' p0 → c < 64 ^ r → gPp k r S c = true → (∀ x, x < c → gPp k r S x = false) → (∀ i, i < r → h'.1 14 (p0 + i) = nI (c / 64 ^ (r - 1 - i) % 64)) → K (some (.int 1)) h') → (∀ h', FI h h' p0 → (∀ c, c < 64 ^ r → gPp k r S c = false) → K (some (.int 0)) h') → qCall (d + r + 5) 68 [.ref 3, .ref 11, .ref 14, .int (nI k), .int (nI p0), .int (nI (p0 + r))] h K
theorem RS.learn {h : qH} {S : gS} {t s : Nat} (hR : RS 11 h S) (hB : GB S) (ht : t < S 0 0) (hs : s < 4) : RS 11 (qI h 11 0 (fput (h.1 11 0) (nI t) (nI (S 4 t ||| 1 <<< s)))) (sS S 4 t (S 4 t ||| 1 <<< s)) := by
  obtain ⟨r0, r1, r2, r3, r4, r7, r6, rq⟩ := hR
  have g : ∀ a, a ≠ 4 → sS S 4 t (S 4 t ||| 1 <<< s) a = S a := fun a ha => sS_ne ha
  have hk : ∀ k, k ≠ 0 → (qI h 11 0 (fput (h.1 11 0) (nI t) (nI (S 4 t ||| 1 <<< s)))).1 11 k = h.1 11 k := fun k hk => by rw [qI_get, if_neg (fun z => hk z.2)]
  unfold RS
  rw [g 0 (by decide), g 5 (by decide), g 6 (by decide), g 7 (by decide), g 8 (by decide), g 9 (by decide), hk 1 (by decide), hk 2 (by decide), hk 3 (by decide), hk 4 (by decide), hk 7 (by decide)]
  refine ⟨fun p hp => ?_, r1, r2, r3, r4, r7, fun p hp => by rw [qI_ne (by decide)]; exact r6 p hp, fun i hi => by rw [qI_ne (by decide)]; exact rq i hi⟩
  rw [qI_get, if_pos ⟨rfl, rfl⟩, fput_rel (f := 0) hB ht hs r0 p hp]
  by_cases z : p = t
  · rw [z, sS_eq]
    unfold gpass
    rw [if_pos ⟨rfl, rfl⟩]
  · rw [sS_nb z]
    unfold gpass
    rw [if_neg (fun v => z v.2), if_neg (by omega), if_neg (by omega), if_neg (by omega), if_neg (by omega)]
section QF
variable {d : Nat} {h : qH} {K : qK} {S : gS}
theorem c_finds0 {k : Nat} : FOk d 0 k := by
  intro S h K p0 hp hC hR hB hk k1 k0
  have hn0 := hB.1
  refine call_wp (n := 40) (cut := []) _ (by decide) (Nat.lt_succ_self _) rfl rfl (Nat.le_of_ble_eq_true rfl) rfl ?_
  refine And.intro (fun c => absurd c (nI_pos (by omega))) (fun _ => ?_)
  refine And.intro (fun _ => ?_) (fun c => absurd (nI_le (Nat.le_refl _) (by omega)) c)
  refine c_knownTo (Or.inr rfl) hR hk ?_
  refine c_infers hC hB hk (hB.2.1 k hk).2.2 (fun b => ?_) (fun b => ?_)
  · exact ⟨Or.inr rfl, k1 h 0 ⟨Fr.rf, fun _ _ => rfl⟩ (by decide) b (fun x hx => by omega) (fun i hi => by omega)⟩
  · exact ⟨Or.inl rfl, k0 h ⟨Fr.rf, fun _ _ => rfl⟩ (fun c _ => b)⟩
theorem gPp_at {k r n x : Nat} (hx : x < 64 ^ r) : gPp k (r + 1) S (n * 64 ^ r + x) = (gok S n && (r != 0 || n / 4 % 4 == k) && gPp k r (glrn S n) x) := by
  rw [gPp, cd_div hx, cd_mod hx]
theorem fnext {k r n : Nat} (h1 : ∀ c, c < n * 64 ^ r → gPp k (r + 1) S c = false) (h2 : ∀ x, x < 64 ^ r → (gok S n && (r != 0 || n / 4 % 4 == k) && gPp k r (glrn S n) x) = false) : ∀ c, c < (n + 1) * 64 ^ r → gPp k (r + 1) S c = false := by
  intro c hc
  rcases Nat.lt_or_ge c (n * 64 ^ r) with z | z
  · exact h1 c z
  · rw [Nat.add_mul, Nat.one_mul] at hc
    have hx : c - n * 64 ^ r < 64 ^ r := by omega
    have := h2 _ hx
    rw [← gPp_at hx] at this
    rw [show n * 64 ^ r + (c - n * 64 ^ r) = c by omega] at this
    exact this
end QF
end
section
/-! ## plans: the class's search, a step -/
theorem cd_dig {n r q c : Nat} (hq : q < r) : (n * 64 ^ r + c) / 64 ^ q % 64 = c / 64 ^ q % 64 := by
  obtain ⟨j, rfl⟩ : ∃ j, r = q + 1 + j := ⟨r - q - 1, by omega⟩
  rw [show n * 64 ^ (q + 1 + j) + c = 64 ^ q * (64 * (n * 64 ^ j)) + c by rw [Nat.pow_add, Nat.pow_succ]; simp [Nat.mul_comm, Nat.mul_left_comm, Nat.mul_assoc]]
  rw [Nat.mul_add_div (Nat.pow_pos (by decide)), Nat.mul_add_mod]
section QF2
variable {d : Nat} {h : qH} {K : qK} {S : gS}
theorem fret {h h1 h' : qH} {p0 n : Nat} {v : Int32} (hF : FI h h1 p0) (hF2 : FI (qI (qI h1 14 p0 (nI n)) 11 0 v) h' (p0 + 1)) : FI h (qI h' 11 0 (h1.1 11 0)) p0 ∧ (qI h' 11 0 (h1.1 11 0)).1 14 p0 = nI n := by
  obtain ⟨⟨a1, a2⟩, a3⟩ := hF
  obtain ⟨⟨b1, b2⟩, b3⟩ := hF2
  refine ⟨⟨⟨fun a ha => ?_, b2.trans a2⟩, fun i hi => ?_⟩, ?_⟩
  · have ha : a ≠ 14 := fun z => ha (by rw [z]; decide)
    by_cases e : a = 11
    · subst e
      funext k
      rw [qI_get]
      by_cases z : k = 0
      · rw [if_pos ⟨rfl, z⟩, z, a1 11 (by decide)]
      · rw [if_neg (fun w => z w.2), b1 11 (by decide), qI_get, if_neg (fun w => z w.2), qI_ne (by decide), a1 11 (by decide)]
    · rw [qI_ne e, b1 a (by simp; exact ha), qI_ne e, qI_ne ha, a1 a (by simp; exact ha)]
  · rw [qI_ne (by decide), b3 i (by omega), qI_ne (by decide), qI_get, if_neg (fun w => by omega)]
    exact a3 i hi
  · rw [qI_ne (by decide), b3 p0 (by omega), qI_ne (by decide), qI_get, if_pos ⟨rfl, rfl⟩]
theorem gok_ge {w : Nat} (h : 16 * S 0 0 ≤ w) : gok S w = false := by
  unfold gok
  rw [show decide (w / 16 < S 0 0) = false from decide_eq_false (by omega)]
  rfl
theorem l_finds {r k p0 : Nat} (rec : FOk d r k) (hp : p0 + (r + 1) ≤ 3) (hC : RC h S) (hR : RS 11 h S) (hB : GB S) (hk : k < S 0 0) (k1 : ∀ h' c, FI h h' p0 → c < 64 ^ (r + 1) → gPp k (r + 1) S c = true → (∀ x, x < c → gPp k (r + 1) S x = false) → (∀ i, i < r + 1 → h'.1 14 (p0 + i) = nI (c / 64 ^ (r + 1 - 1 - i) % 64)) → K (some (.int 1)) h') (k0 : ∀ h', FI h h' p0 → (∀ c, c < 64 ^ (r + 1) → gPp k (r + 1) S c = false) → K (some (.int 0)) h') : ∀ m n, n + m = 16 * S 0 0 → ∀ h1 x y z u v, FI h h1 p0 → (∀ c, c < n * 64 ^ r → gPp k (r + 1) S c = false) → qAt (d + r + 5, 68, some .boolean, q0, K) 27 [some (.ref 3), some (.ref 11), some (.ref 14), some (.int (nI k)), some (.int (nI p0)), some (.int (nI (p0 + (r + 1)))), some (.int (b2 (r == 0))), some (.int (nI n)), x, y, z, u, v] [] h1 := by
  have hn0 := hB.1
  intro m
  induction m with
  | zero =>
    intro n hn h1 x y z u v hF hz
    have hn : n = 16 * S 0 0 := by omega
    have e : (16 : Int32) * h1.1 3 0 = nI (16 * S 0 0) := by rw [hF.1.1 3 (by decide), hC.1]; exact pk_mul 16 _
    refine at_wp [] 20 (Nat.le_of_ble_eq_true rfl) rfl ?_
    refine And.intro (fun _ => ?_) (fun c => absurd (by show (16 : Int32) * h1.1 3 0 ≤ nI n; rw [e, hn]; exact nI_le (Nat.le_refl _) (by omega)) c)
    refine ⟨Or.inl rfl, k0 h1 hF (fun c hc => ?_)⟩
    rcases Nat.lt_or_ge c (n * 64 ^ r) with q | q
    · exact hz c q
    · have : n ≤ c / 64 ^ r := (Nat.le_div_iff_mul_le (Nat.pow_pos (by decide))).mpr q
      rw [gPp, gok_ge (by omega)]
      rfl
  | succ m ih =>
    intro n hn h1 x y z u v hF hz
    have hn64 : n < 64 := by omega
    have e : (16 : Int32) * h1.1 3 0 = nI (16 * S 0 0) := by rw [hF.1.1 3 (by decide), hC.1]; exact pk_mul 16 _
    have hC1 : RC h1 S := hC.fr hF.1 (by decide) (by decide)
    have hR1 : RS 11 h1 S := hR.fr hF.1 (by decide) (by decide) (by decide)
    have nxt : ∀ h2 x y z u v, FI h h2 p0 → (∀ x, x < 64 ^ r → (gok S n && (r != 0 || n / 4 % 4 == k) && gPp k r (glrn S n) x) = false) → qAt (d + r + 5, 68, some .boolean, q0, K) 98 [some (.ref 3), some (.ref 11), some (.ref 14), some (.int (nI k)), some (.int (nI p0)), some (.int (nI (p0 + (r + 1)))), some (.int (b2 (r == 0))), some (.int (nI n)), x, y, z, u, v] [] h2 := by
      intro h2 x y z u v hF2 hz2
      refine at_wp [27] 12 (Nat.le_of_ble_eq_true rfl) rfl ?_
      have := ih (n + 1) (by omega) h2 x y z u v hF2 (fnext hz hz2)
      rw [← nI_1] at this
      exact this
    have bod : (r != 0 || n / 4 % 4 == k) = true → qAt (d + r + 5, 68, some .boolean, q0, K) 52 [some (.ref 3), some (.ref 11), some (.ref 14), some (.int (nI k)), some (.int (nI p0)), some (.int (nI (p0 + (r + 1)))), some (.int (b2 (r == 0))), some (.int (nI n)), some (.int (nI (n / 16))), some (.int (nI (n / 4 % 4))), some (.int (nI (n % 4))), u, v] [] h1 := by
      intro hl
      have lt : n / 4 % 4 < 4 := Nat.mod_lt _ (by decide)
      have ls : n % 4 < 4 := Nat.mod_lt _ (by decide)
      have lf : n / 16 < S 0 0 := by omega
      refine at_wp [98] 90 (Nat.le_of_ble_eq_true rfl) rfl ?_
      refine c_isPerson hC1 hB (fun t ht et => ?_) (fun hne => ?_)
      · rw [nI_eq (by omega) (by omega)] at et
        have ht : n / 4 % 4 < S 0 0 := by omega
        refine And.intro (fun c => absurd c (by decide)) (fun _ => ?_)
        refine c_canTell (Or.inr rfl) hR1 hB lf ht ls (fun b1 => ?_) (fun b1 => ?_)
        · refine And.intro (fun c => absurd c (by decide)) (fun _ => ?_)
          refine c_hangsTeller (Or.inr rfl) hC1 hR1 hB lf ht ls (fun bh => ?_) (fun bh => ?_)
          · refine And.intro (fun c => absurd c (by decide)) (fun _ => ?_)
            refine nxt h1 _ _ _ _ _ hF (fun x _ => ?_)
            rw [show gok S n = false by unfold gok; rw [bh]; simp]
            rfl
          · refine And.intro (fun _ => ?_) (fun c => absurd rfl c)
            have ok : gok S n = true := by
              unfold gok
              rw [b1, bh, decide_eq_true lf, decide_eq_true ht]
              rfl
            have ecp : (nI p0).toNatClampNeg = p0 := nI_clamp (by omega)
            refine And.intro (vp_in_nI (by omega) (by decide)) ?_
            have hF14 : Fr [14] h1 (qI h1 14 (nI p0).toNatClampNeg (nI n)) := Fr.rf.I (by decide)
            have hR2 : RS 11 (qI h1 14 (nI p0).toNatClampNeg (nI n)) S := hR1.fr hF14 (by decide) (by decide) (by decide)
            have hC2 : RC (qI h1 14 (nI p0).toNatClampNeg (nI n)) S := hC1.fr hF14 (by decide) (by decide)
            refine c_learn (Or.inr rfl) hR2 hB ht ls ?_
            have hR3 := hR2.learn hB ht ls
            obtain ⟨fv, efv⟩ : ∃ fv, fv = fput ((qI h1 14 (nI p0).toNatClampNeg (nI n)).1 11 0) (nI (n / 4 % 4)) (nI (S 4 (n / 4 % 4) ||| 1 <<< (n % 4))) := ⟨_, rfl⟩
            rw [← efv] at hR3 ⊢
            have hC3 : RC (qI (qI h1 14 (nI p0).toNatClampNeg (nI n)) 11 0 fv) (glrn S n) := (hC2.fr (l := [11]) (Fr.rf.I (by decide)) (by decide) (by decide)).S (fun a ha => glrn_o (by omega))
            have rec' : ∀ K2, (∀ h' c, FI (qI (qI h1 14 (nI p0).toNatClampNeg (nI n)) 11 0 fv) h' (p0 + 1) → c < 64 ^ r → gPp k r (glrn S n) c = true → (∀ x, x < c → gPp k r (glrn S n) x = false) → (∀ i, i < r → h'.1 14 (p0 + 1 + i) = nI (c / 64 ^ (r - 1 - i) % 64)) → K2 (some (.int 1)) h') → (∀ h', FI (qI (qI h1 14 (nI p0).toNatClampNeg (nI n)) 11 0 fv) h' (p0 + 1) → (∀ c, c < 64 ^ r → gPp k r (glrn S n) c = false) → K2 (some (.int 0)) h') → qCall (d + r + 5) 68 [.ref 3, .ref 11, .ref 14, .int (nI k), .int (nI p0 + 1), .int (nI (p0 + (r + 1)))] (qI (qI h1 14 (nI p0).toNatClampNeg (nI n)) 11 0 fv) K2 := fun K2 a b => by
              have := rec (glrn S n) _ K2 (p0 + 1) (by omega) hC3 hR3 (hB.kn ht ls) (by rw [glrn_o (by decide)]; exact hk) a b
              rw [← nI_1, show p0 + 1 + r = p0 + (r + 1) by omega] at this
              exact this
            refine rec' _ (fun h' c hF' hc hpc hlc hw => ?_) (fun h' hF' hz' => ?_)
            · rw [ecp] at hF'
              obtain ⟨f1, f2⟩ := fret hF hF'
              refine And.intro (fun c => absurd c (by decide)) (fun _ => ?_)
              refine ⟨Or.inr rfl, ?_⟩
              show K (some (.int 1)) (qI h' 11 0 (h1.1 11 0))
              refine k1 _ (n * 64 ^ r + c) f1 (cd_lt hn64 hc) (by rw [gPp_at hc, ok, hl, hpc]; rfl) (fun x hx => ?_) (fun i hi => ?_)
              · rcases Nat.lt_or_ge x (n * 64 ^ r) with q | q
                · exact hz x q
                · have := gPp_at (S := S) (k := k) (r := r) (n := n) (x := x - n * 64 ^ r) (by omega)
                  rw [show n * 64 ^ r + (x - n * 64 ^ r) = x by omega] at this
                  rw [this, hlc _ (by omega)]
                  simp
              · rcases Nat.eq_zero_or_pos i with z | z
                · subst z
                  rw [Nat.add_zero, f2, show r + 1 - 1 - 0 = r by omega, cd_div hc, Nat.mod_eq_of_lt hn64]
                · obtain ⟨j, rfl⟩ : ∃ j, i = j + 1 := ⟨i - 1, by omega⟩
                  have := hw j (by omega)
                  rw [qI_ne (by decide), show p0 + (j + 1) = p0 + 1 + j by omega, this, show r + 1 - 1 - (j + 1) = r - 1 - j by omega, cd_dig (by omega)]
            · rw [ecp] at hF'
              obtain ⟨f1, f2⟩ := fret hF hF'
              refine And.intro (fun _ => ?_) (fun c => absurd rfl c)
              show qAt _ 98 [some (.ref 3), some (.ref 11), some (.ref 14), some (.int (nI k)), some (.int (nI p0)), some (.int (nI (p0 + (r + 1)))), some (.int (b2 (r == 0))), some (.int (nI n)), some (.int (nI (n / 16))), some (.int (nI (n / 4 % 4))), some (.int (nI (n % 4))), some (.int (h1.1 11 0)), some (.int 0)] [] (qI h' 11 0 (h1.1 11 0))
              refine nxt _ _ _ _ _ _ f1 (fun x hx => ?_)
              rw [hz' x hx]
              simp
        · refine And.intro (fun _ => ?_) (fun c => absurd rfl c)
          refine nxt h1 _ _ _ _ _ hF (fun x _ => ?_)
          rw [show gok S n = false by unfold gok; rw [b1]; simp]
          rfl
      · refine And.intro (fun _ => ?_) (fun c => absurd rfl c)
        refine nxt h1 _ _ _ _ _ hF (fun x _ => ?_)
        rw [show gok S n = false by unfold gok; rw [show decide (n / 4 % 4 < S 0 0) = false from decide_eq_false (fun w => hne _ w rfl)]; simp]
        rfl
    refine at_wp [52, 98] 60 (Nat.le_of_ble_eq_true rfl) rfl ?_
    refine And.intro (fun c => absurd c (by show ¬ (16 : Int32) * h1.1 3 0 ≤ nI n; rw [e]; exact nI_ge (by omega) (by omega))) (fun _ => ?_)
    rw [← w_f n hn64, ← w_t n hn64, ← w_s n hn64] at bod
    refine And.intro (fun c1 => ?_) (fun c1 => ?_)
    · refine bod ?_
      cases r with
      | zero => exact absurd c1 (by decide)
      | succ r => rfl
    · have r0 : r = 0 := by
        cases r with
        | zero => rfl
        | succ r => exact absurd rfl c1
      refine And.intro (fun c2 => ?_) (fun c2 => ?_)
      · have c2 : nI n >>> ((2 : Int32) &&& 31) &&& 3 = nI k := c2
        rw [w_t n hn64, nI_eq (by omega) (by omega)] at c2
        exact bod (by rw [c2]; simp)
      · have c2 : ¬ nI n >>> ((2 : Int32) &&& 31) &&& 3 = nI k := c2
        rw [w_t n hn64, nI_eq (by omega) (by omega)] at c2
        refine nxt h1 _ _ _ _ _ hF (fun x _ => ?_)
        rw [show (r != 0 || n / 4 % 4 == k) = false by rw [r0]; simp [c2]]
        simp
end QF2
end
section
/-! ## plans: the class's fewest words -/
section QF3
variable {d : Nat} {h : qH} {K : qK} {S : gS}
theorem c_findsS {r k : Nat} (rec : FOk d r k) : FOk d (r + 1) k := by
  intro S h K p0 hp hC hR hB hk k1 k0
  have hn0 := hB.1
  have go := l_finds (d := d) (r := r) rec hp hC hR hB hk k1 k0 (16 * S 0 0) 0 (by omega) h none none none none none ⟨Fr.rf, fun _ _ => rfl⟩ (fun c hc => by omega)
  refine call_wp (n := 60) (cut := [27]) _ (by decide) (Nat.lt_succ_self _) rfl rfl (Nat.le_of_ble_eq_true rfl) rfl ?_
  refine And.intro (fun c => absurd c (nI_pos (by omega))) (fun _ => ?_)
  refine And.intro (fun c => absurd c (nI_ge (by omega) (by omega))) (fun _ => ?_)
  refine And.intro (fun _ => ?_) (fun c => absurd (nI_lt (b := 3) (by omega) (by decide)) c)
  have em : nI (p0 + (r + 1)) - 1 = nI (p0 + r) := nI_pred (p0 + r)
  refine And.intro (fun c => ?_) (fun c => ?_)
  · have c : nI p0 = nI (p0 + (r + 1)) - 1 := c
    rw [em, nI_eq (by omega) (by omega)] at c
    have r0 : r = 0 := by omega
    subst r0
    exact go
  · have c : ¬ nI p0 = nI (p0 + (r + 1)) - 1 := c
    rw [em, nI_eq (by omega) (by omega)] at c
    obtain ⟨j, rfl⟩ : ∃ j, r = j + 1 := ⟨r - 1, by omega⟩
    exact go
theorem c_finds {k : Nat} : ∀ r, FOk d r k
  | 0 => c_finds0
  | r + 1 => c_findsS (c_finds r)
theorem gfew_up {k m : Nat} {x : Nat × Nat} (e : gfew S k m = some x) : ∀ j, gfew S k (m + j) = some x
  | 0 => e
  | j + 1 => by
    rw [← Nat.add_assoc, gfew, gfew_up e j]
theorem gfew_n {k m : Nat} (e : gfew S k (m + 1) = none) : gfew S k m = none ∧ gff (gP k m S) (64 ^ m) = none := by
  rw [gfew] at e
  cases e1 : gfew S k m with
  | some x => rw [e1] at e; simp at e
  | none =>
    rw [e1] at e
    cases e2 : gff (gP k m S) (64 ^ m) with
    | some x => rw [e2] at e; simp at e
    | none => exact ⟨rfl, rfl⟩
theorem gPp_eq {k m : Nat} (e : gfew S k m = none) : ∀ c, c < 64 ^ m → gPp k m S c = gP k m S c := by
  cases m with
  | zero => exact fun c _ => rfl
  | succ m => exact prune_eq m S (gff_of_none _ (gfew_n e).2)
theorem l_few {k : Nat} (hC : RC h S) (hR : RS 11 h S) (hB : GB S) (hk : k < S 0 0) (kS : ∀ h' m c, Fr [14] h h' → gfew S k 4 = some (m, c) → m ≤ 3 → (∀ i, i < m → h'.1 14 i = nI (c / 64 ^ (m - 1 - i) % 64)) → K (some (.int (nI m))) h') (kN : ∀ h', Fr [14] h h' → gfew S k 4 = none → K (some (.int (-1))) h') : ∀ j m, m + j = 4 → ∀ h1, Fr [14] h h1 → gfew S k m = none → qAt (d + 8, 67, some .int, q0, K) 7 [some (.ref 0), some (.int (nI k)), some (.int (nI m))] [] h1 := by
  intro j
  induction j with
  | zero =>
    intro m hm h1 hF e
    have hm : m = 4 := by omega
    subst hm
    refine at_wp [] 12 (Nat.le_of_ble_eq_true rfl) rfl ?_
    refine And.intro (fun _ => ?_) (fun c => absurd (by decide) c)
    exact kN h1 hF e
  | succ j ih =>
    intro m hm h1 hF e
    have hC1 : RC h1 S := hC.fr hF (by decide) (by decide)
    have hR1 : RS 11 h1 S := hR.fr hF (by decide) (by decide) (by decide)
    have rec' : ∀ K2, (∀ h' c, FI h1 h' 0 → c < 64 ^ m → gPp k m S c = true → (∀ x, x < c → gPp k m S x = false) → (∀ i, i < m → h'.1 14 (0 + i) = nI (c / 64 ^ (m - 1 - i) % 64)) → K2 (some (.int 1)) h') → (∀ h', FI h1 h' 0 → (∀ c, c < 64 ^ m → gPp k m S c = false) → K2 (some (.int 0)) h') → qCall (d + 8) 68 [.ref 3, .ref 11, .ref 14, .int (nI k), .int (nI 0), .int (nI m)] h1 K2 := fun K2 a b => by
      have := c_finds (d := d + (3 - m)) (k := k) m S h1 K2 0 (by omega) hC1 hR1 hB hk a b
      rw [Nat.zero_add, show d + (3 - m) + m + 5 = d + 8 by omega] at this
      exact this
    refine at_wp [7] 40 (Nat.le_of_ble_eq_true rfl) rfl ?_
    refine And.intro (fun c => absurd c (nI_nlt (a := 3) (b := m) (by omega) (by decide))) (fun _ => ?_)
    refine rec' _ (fun h' c hF' hc hpc hl hw => ?_) (fun h' hF' hz => ?_)
    · refine And.intro (fun c => absurd c (by decide)) (fun _ => ?_)
      have f : gff (gP k m S) (64 ^ m) = some c := gff_some (by rw [← gPp_eq e c hc]; exact hpc) (fun x hx => by rw [← gPp_eq e x (by omega)]; exact hl x hx) _ hc
      have f2 : gfew S k (m + 1) = some (m, c) := by rw [gfew, e, f]
      have f3 := gfew_up f2 j
      rw [show m + 1 + j = 4 by omega] at f3
      refine kS h' m c (hF.tr hF'.1) f3 (by omega) (fun i hi => ?_)
      have := hw i hi
      rw [Nat.zero_add] at this
      exact this
    · refine And.intro (fun _ => ?_) (fun c => absurd rfl c)
      have f : gff (gP k m S) (64 ^ m) = none := gff_none _ (fun c hc => by rw [← gPp_eq e c hc]; exact hz c hc)
      have f2 : gfew S k (m + 1) = none := by rw [gfew, e, f]
      have := ih (m + 1) (by omega) h' (hF.tr hF'.1) f2
      rw [← nI_1] at this
      exact this
theorem c_fewest {k : Nat} (hC : RC h S) (hR : RS 5 h S) (hB : GB S) (hA : GA S) (hk : k < S 0 0) (kS : ∀ h' m c, Fr [11, 12, 13, 14] h h' → gfew S k 4 = some (m, c) → m ≤ 3 → (∀ i, i < m → h'.1 14 i = nI (c / 64 ^ (m - 1 - i) % 64)) → K (some (.int (nI m))) h') (kN : ∀ h', Fr [11, 12, 13, 14] h h' → gfew S k 4 = none → K (some (.int (-1))) h') : qCall (d + 9) 67 [.ref 0, .int (nI k)] h K := by
  refine call_wp (n := 40) (cut := [7]) _ (by decide) (Nat.lt_succ_self _) rfl rfl (Nat.le_of_ble_eq_true rfl) rfl ?_
  refine c_copy_11 (fun h1 hc => ?_)
  obtain ⟨z1, z2, z3, z4, z5⟩ := hc
  have r11 : RS 11 h1 S := RS.copy hB hA hR z2 z3 z4 z5
  have hC1 : RC h1 S := hC.fr z1 (by decide) (by decide)
  exact l_few hC1 r11 hB hk (fun h' m c hF => kS h' m c ((z1.mono (by decide)).tr (hF.mono (by decide)))) (fun h' hF => kN h' ((z1.mono (by decide)).tr (hF.mono (by decide)))) 4 0 rfl h1 Fr.rf rfl
end QF3
end
section
/-! ## plans: the class's answer -/
def wix (w : Int32) : Option Nat := if w = 10 then some 0 else if w = 11 then some 1 else if w = 12 then some 2 else none
def gpl (S : gS) (k : Nat) (w : Int32) : Int32 := match gfew S k 4 with
  | none => -1
  | some x => if w = 0 then nI x.1 else match wix w with
    | some i => if i < x.1 then nI (x.2 / 64 ^ (x.1 - 1 - i) % 64) else -1
    | none => -1
def okPlan (S : gS) (k : Nat) : Bool := gking S k && !(S 5 0).testBit k && decide (S 12 0 < 12)
def aPlan (S : gS) (p w : Int32) : Int32 := match ip S p with
  | none => -101
  | some k => if w = 0 ∨ (wix w).isSome = true then (if okPlan S k = true then gpl S k w else -103) else -102
def uPlan (S : gS) (p w : Int32) : gS := match ip S p with
  | none => S
  | some k => if w = 0 ∨ (wix w).isSome = true then (if okPlan S k = true then sS S 12 0 (S 12 0 + 1) else S) else S
theorem wix_s {w : Int32} (h1 : ¬ w < 10) (h2 : w < 13) : ∃ i, i < 3 ∧ wix w = some i ∧ w - 10 = nI i ∧ ¬ w = 0 := by
  rcases pk_ix w (n := 13) (by decide) with c | c | ⟨n, hn, e⟩
  · exact absurd (Int32.lt_trans c (show (0 : Int32) < 10 by decide)) h1
  · exact absurd h2 (Int32.not_lt.mpr c)
  · subst e
    have h1 : ¬ n < 10 := fun z => h1 (nI_lt (b := 10) z (by decide))
    rcases (show n = 10 ∨ n = 11 ∨ n = 12 by omega) with rfl | rfl | rfl
    · exact ⟨0, by decide, by decide, by decide, by decide⟩
    · exact ⟨1, by decide, by decide, by decide, by decide⟩
    · exact ⟨2, by decide, by decide, by decide, by decide⟩
theorem wix_n {w : Int32} (h : w < 10 ∨ ¬ w < 13) : wix w = none := by
  unfold wix
  by_cases e1 : w = 10
  · subst e1
    exact absurd h (by decide)
  · by_cases e2 : w = 11
    · subst e2
      exact absurd h (by decide)
    · by_cases e3 : w = 12
      · subst e3
        exact absurd h (by decide)
      · rw [if_neg e1, if_neg e2, if_neg e3]
theorem RX.fr4 {h h' : qH} {S : gS} (hX : RX h S) (f : Fr [11, 12, 13, 14] h h') : RX h' S := by
  obtain ⟨x1, x2, x3, x4, x5, x6, x7, x8⟩ := hX
  unfold RX
  rw [f.1 0 (by decide), f.1 1 (by decide), f.1 2 (by decide)]
  exact ⟨x1.fr f (by decide) (by decide), x2.fr f (by decide) (by decide) (by decide), fun z => (x3 z).fr f (by decide) (by decide) (by decide), x4, x5, x6, x7, x8⟩
theorem RX.p1 {h : qH} {S : gS} {v : Nat} (hX : RX h S) : RX (qI h 0 8 (nI v)) (sS S 12 0 v) := by
  obtain ⟨x1, x2, x3, x4, x5, x6, x7, x8⟩ := hX
  have f : Fr [0] h (qI h 0 8 (nI v)) := Fr.rf.I (by decide)
  have g : ∀ a, a ≠ 12 → sS S 12 0 v a = S a := fun a ha => sS_ne ha
  have hk : ∀ k, k ≠ 8 → (qI h 0 8 (nI v)).1 0 k = h.1 0 k := fun k hk => by rw [qI_get, if_neg (fun z => hk z.2)]
  unfold RX
  rw [g 13 (by decide), g 10 (by decide), g 11 (by decide), hk 6 (by decide), hk 7 (by decide), f.1 1 (by decide), f.1 2 (by decide), sS_nb (show (1 : Nat) ≠ 0 by decide), sS_eq]
  refine ⟨(x1.fr f (by decide) (by decide)).S (fun a ha => g a (by omega)), (x2.fr f (by decide) (by decide) (by decide)).S (fun a ha => g a (by omega)), fun z => ((x3 z).fr f (by decide) (by decide) (by decide)).S (fun a ha => ?_), x4, x5, ?_, x7, x8⟩
  · funext y
    unfold gkept
    rw [g 14 (by decide), g 15 (by decide), g 16 (by decide), g 17 (by decide), g 18 (by decide), g 19 (by decide), g a (by omega)]
  · rw [qI_get, if_pos ⟨rfl, rfl⟩]
section QPL
variable {d : Nat} {h : qH} {K : qK} {S : gS}
theorem l_p17 {n : Nat} {w : Int32} (hX : RX h S) (hG : RG S) (hn : n < S 0 0) (hw : w = 0 ∨ ∃ i, i < 3 ∧ wix w = some i ∧ w - 10 = nI i ∧ ¬ w = 0) (hk : ∀ h', Fr lX h h' → RX h' (if okPlan S n = true then sS S 12 0 (S 12 0 + 1) else S) → K (some (.int (if okPlan S n = true then gpl S n w else -103))) h') : qAt (d + 9, 54, some .int, q0, K) 17 [some (.ref 0), some (.int (nI n)), some (.int w), none, none] [] h := by
  have hB := hG.1
  have hn0 := hB.1
  have h12 := hG.2.2.2.2.1
  have e8 := hX.2.2.2.2.2.1
  have bad : okPlan S n = false → K (some (.int (-103))) h := fun z => by
    have := hk h Fr.rf
    rw [z] at this
    exact this hX
  refine at_wp [] 90 (Nat.le_of_ble_eq_true rfl) rfl ?_
  refine c_isA (k := 1) hX.1 hB hn (by decide) (fun b1 => ?_) (fun b1 => ?_)
  · rw [gisA_1] at b1
    refine And.intro (fun c => absurd c (by decide)) (fun _ => ?_)
    refine c_isHanged (Or.inl rfl) hX.2.1 hB (by omega) (fun b2 => ?_) (fun b2 => ?_)
    · refine And.intro (fun c => absurd c (by decide)) (fun _ => ?_)
      exact bad (by unfold okPlan; rw [b2]; simp)
    · refine And.intro (fun _ => ?_) (fun c => absurd rfl c)
      refine And.intro (fun c1 => ?_) (fun c1 => ?_)
      · have c1 : h.1 0 8 < 12 := c1
        have hlt : S 12 0 < 12 := by
          rcases Nat.lt_or_ge (S 12 0) 12 with q | q
          · exact q
          · rw [e8] at c1
            exact absurd c1 (nI_nlt (b := 12) q (by omega))
        have ok : okPlan S n = true := by
          unfold okPlan
          rw [b1, b2, decide_eq_true hlt]
          rfl
        simp only [if_pos ok] at hk
        obtain ⟨h2, eh2⟩ : ∃ h2, h2 = qI h 0 8 (nI (S 12 0 + 1)) := ⟨_, rfl⟩
        have hX2 : RX h2 (sS S 12 0 (S 12 0 + 1)) := by rw [eh2]; exact hX.p1
        have hf2 : Fr [0] h h2 := by rw [eh2]; exact Fr.rf.I (by decide)
        show qCall _ 67 [.ref 0, .int (nI n)] (qI h 0 8 (h.1 0 8 + 1)) _
        rw [e8, nI_1, ← eh2]
        unfold gpl at hk
        refine c_fewest (S := S) (hX.1.fr hf2 (by decide) (by decide)) (hX.2.1.fr hf2 (by decide) (by decide) (by decide)) hB hG.2.1 hn (fun h' m c hF e hm hwd => ?_) (fun h' hF e => ?_)
        · have hk := hk h' ((hf2.mono (by decide)).tr (hF.mono (by decide))) (hX2.fr4 hF)
          rw [e] at hk
          dsimp only at hk
          refine And.intro (fun c2 => ?_) (fun c2 => ?_)
          · have c2 : w = 0 := c2
            rw [if_pos c2] at hk
            exact hk
          · have c2 : ¬ w = 0 := c2
            rw [if_neg c2] at hk
            obtain ⟨i, i3, wi, w10, _⟩ := hw.resolve_left c2
            have eci : (nI i).toNatClampNeg = i := nI_clamp (by omega)
            rw [wi] at hk
            dsimp only at hk
            refine And.intro (fun c3 => absurd (show w - 10 < 0 from c3) (by rw [w10]; exact nI_pos (by omega))) (fun _ => ?_)
            refine And.intro (fun c4 => ?_) (fun c4 => ?_)
            · have c4 : nI m ≤ w - 10 := c4
              rw [w10] at c4
              rw [if_neg (fun z => absurd c4 (nI_ge z (by omega)))] at hk
              exact hk
            · have c4 : ¬ nI m ≤ w - 10 := c4
              rw [w10] at c4
              have im : i < m := by
                rcases Nat.lt_or_ge i m with q | q
                · exact q
                · exact absurd (nI_le q (by omega)) c4
              rw [if_pos im, ← hwd i im] at hk
              refine And.intro (fun c5 => absurd (show 3 ≤ w - 10 from c5) (by rw [w10]; exact nI_ge (b := 3) i3 (by decide))) (fun _ => ?_)
              refine And.intro (by show vp_in (w - 10) 3; rw [w10]; exact vp_in_nI i3 (by decide)) ?_
              show K (some (.int (h'.1 14 (w - 10).toNatClampNeg))) h'
              rw [w10, eci]
              exact hk
        · have hk := hk h' ((hf2.mono (by decide)).tr (hF.mono (by decide))) (hX2.fr4 hF)
          rw [e] at hk
          dsimp only at hk
          refine And.intro (fun c2 => hk) (fun c2 => ?_)
          have c2 : ¬ w = 0 := c2
          obtain ⟨i, i3, wi, w10, _⟩ := hw.resolve_left c2
          refine And.intro (fun c3 => absurd (show w - 10 < 0 from c3) (by rw [w10]; exact nI_pos (by omega))) (fun _ => ?_)
          refine And.intro (fun c4 => hk) (fun c4 => ?_)
          refine absurd (show (-1 : Int32) ≤ w - 10 from ?_) c4
          rw [w10]
          exact Int32.le_trans (show (-1 : Int32) ≤ 0 by decide) (nI_pos' (by omega))
      · have c1 : ¬ h.1 0 8 < 12 := c1
        refine bad ?_
        unfold okPlan
        rw [show decide (S 12 0 < 12) = false from decide_eq_false (fun z => c1 (by rw [e8]; exact nI_lt (b := 12) z (by decide)))]
        simp
  · rw [gisA_1] at b1
    refine And.intro (fun _ => ?_) (fun c => absurd rfl c)
    exact bad (by unfold okPlan; rw [b1]; rfl)
theorem x_plan {p w : Int32} (hX : RX h S) (hG : RG S) (hk : ∀ h', Fr lX h h' → RX h' (uPlan S p w) → K (some (.int (aPlan S p w))) h') : qCall (d + 10) 54 [.ref 0, .int p, .int w] h K := by
  have hB := hG.1
  have hn0 := hB.1
  unfold aPlan uPlan at hk
  refine call_wp (n := 30) (cut := [17]) _ (by decide) (Nat.lt_succ_self _) rfl rfl (Nat.le_of_ble_eq_true rfl) rfl ?_
  refine c_isPerson hX.1 hB (fun n hn ep => ?_) (fun hne => ?_)
  · subst ep
    rw [show ip S (nI n) = some n from ix_some hn (by omega)] at hk
    dsimp only at hk
    refine And.intro (fun c => absurd c (by decide)) (fun _ => ?_)
    refine And.intro (fun c1 => ?_) (fun c1 => ?_)
    · have c1 : w = 0 := c1
      simp only [if_pos (show w = 0 ∨ (wix w).isSome = true from Or.inl c1)] at hk
      exact l_p17 hX hG hn (Or.inl c1) hk
    · have c1 : ¬ w = 0 := c1
      have bad : w < 10 ∨ ¬ w < 13 → K (some (.int (-102))) h := fun z => by
        have zz : ¬ (w = 0 ∨ (wix w).isSome = true) := by
          rw [wix_n z]
          simp [c1]
        simp only [if_neg zz] at hk
        exact hk h Fr.rf hX
      refine And.intro (fun c2 => bad (Or.inl c2)) (fun c2 => ?_)
      refine And.intro (fun c3 => ?_) (fun c3 => bad (Or.inr c3))
      obtain ⟨i, i3, wi, w10, w0⟩ := wix_s c2 c3
      simp only [if_pos (show w = 0 ∨ (wix w).isSome = true from Or.inr (by rw [wi]; rfl))] at hk
      exact l_p17 hX hG hn (Or.inr ⟨i, i3, wi, w10, w0⟩) hk
  · rw [show ip S p = none from ix_none (by omega) hne] at hk
    refine And.intro (fun _ => ?_) (fun c => absurd rfl c)
    exact hk h Fr.rf hX
end QPL
end
section
/-! ## plans: the reference's words -/
theorem w_d16 : ∀ w, w < 64 → nI w / Int32.ofInt 16 = nI (w / 16) := by decide +kernel
theorem w_d4 : ∀ w, w < 64 → nI w / Int32.ofInt 4 - nI w / Int32.ofInt 4 / Int32.ofInt 4 * Int32.ofInt 4 = nI (w / 4 % 4) := by decide +kernel
theorem w_m4 : ∀ w, w < 64 → nI w - nI w / Int32.ofInt 4 * Int32.ofInt 4 = nI (w % 4) := by decide +kernel
section QMW
variable {d : Nat} {h : qH} {K : qK} {S : gS}
theorem m_mayWord {w : Nat} (hw : w < 64) (hM : RMc h S) (hB : GB S) (k1 : gok S w = true → K (some (.int 1)) (qI h 18 (w / 4 % 4) (h.1 18 (w / 4 % 4) ||| (1 <<< (nI (w % 4) &&& 31))))) (k0 : gok S w = false → K (some (.int 0)) h) : qCall (d + 5) 102 [.ref 15, .int (nI w)] h K := by
  have hn0 := hB.1
  have ls : w % 4 < 4 := Nat.mod_lt _ (by decide)
  have lt : w / 4 % 4 < 4 := Nat.mod_lt _ (by decide)
  have ect : (nI (w / 4 % 4)).toNatClampNeg = w / 4 % 4 := nI_clamp (by omega)
  refine call_wp (n := 90) (cut := []) _ (by decide) (Nat.lt_succ_self _) rfl rfl (Nat.le_of_ble_eq_true rfl) rfl ?_
  refine And.intro (by decide) (And.intro (by decide) (And.intro (by decide) (And.intro (by decide) ?_)))
  rw [w_d16 w hw, w_d4 w hw, w_m4 w hw]
  refine m_isOne hM hB (fun a ha ea => ?_) (fun hne => ?_)
  · rw [nI_eq (by omega) (by omega)] at ea
    refine And.intro (fun c => absurd c (by decide)) (fun _ => ?_)
    refine m_isOne hM hB (fun b hb eb => ?_) (fun hne => ?_)
    · rw [nI_eq (by omega) (by omega)] at eb
      refine And.intro (fun c => absurd c (by decide)) (fun _ => ?_)
      refine m_canTell hM hB (by omega) (by omega) ls (fun b1 => ?_) (fun b1 => ?_)
      · refine And.intro (fun c => absurd c (by decide)) (fun _ => ?_)
        refine m_isHanging hM hB (by omega) (by omega) ls (fun bh => ?_) (fun bh => ?_)
        · refine And.intro (fun c => absurd c (by decide)) (fun _ => ?_)
          exact ⟨Or.inl rfl, k0 (by unfold gok; rw [bh]; simp)⟩
        · refine And.intro (fun _ => ?_) (fun c => absurd rfl c)
          refine And.intro (vp_in_nI (by omega) (by decide)) ?_
          refine And.intro (vp_in_nI (by omega) (by decide)) ?_
          refine ⟨Or.inr rfl, ?_⟩
          show K (some (.int 1)) (qI h 18 (nI (w / 4 % 4)).toNatClampNeg (h.1 18 (nI (w / 4 % 4)).toNatClampNeg ||| (1 <<< (nI (w % 4) &&& 31))))
          rw [ect]
          exact k1 (by
            unfold gok
            rw [b1, bh, decide_eq_true (show w / 16 < S 0 0 by omega), decide_eq_true (show w / 4 % 4 < S 0 0 by omega)]
            rfl)
      · refine And.intro (fun _ => ?_) (fun c => absurd rfl c)
        exact ⟨Or.inl rfl, k0 (by unfold gok; rw [b1]; simp)⟩
    · refine And.intro (fun _ => ?_) (fun c => absurd rfl c)
      exact ⟨Or.inl rfl, k0 (by unfold gok; rw [show decide (w / 4 % 4 < S 0 0) = false from decide_eq_false (fun z => hne _ z rfl)]; simp)⟩
  · refine And.intro (fun _ => ?_) (fun c => absurd rfl c)
    exact ⟨Or.inl rfl, k0 (by unfold gok; rw [show decide (w / 16 < S 0 0) = false from decide_eq_false (fun z => hne _ z rfl)]; simp)⟩
end QMW
end
section
/-! ## plans: the reference's test of a code -/
theorem cd_sh {c : Nat} (hc : c < 262144) : ∀ r, r < 3 → nI c >>> ((Int32.ofInt 6 * nI r) &&& 31) &&& Int32.ofInt 63 = nI (c / 64 ^ r % 64) := by
  intro r hr
  have h2 : c / 64 ^ r < 2 ^ 32 := Nat.lt_of_le_of_lt (Nat.div_le_self _ _) (by omega)
  rcases (show r = 0 ∨ r = 1 ∨ r = 2 by omega) with rfl | rfl | rfl
  · rw [pk_shrN (by omega) _ 0 (by decide), pk_andN (by omega) 6 (by decide)]
  · rw [pk_shrN (by omega) _ 6 (by decide), pk_andN (by omega) 6 (by decide)]
  · rw [pk_shrN (by omega) _ 12 (by decide), pk_andN (by omega) 6 (by decide)]
theorem cd_w2 (c r : Nat) : c % 64 ^ (r + 1) / 64 ^ r = c / 64 ^ r % 64 := by
  rw [Nat.pow_succ, Nat.mod_mul_right_div_self]
theorem cd_m2 (c r : Nat) : c % 64 ^ (r + 1) % 64 ^ r = c % 64 ^ r := Nat.mod_mod_of_dvd _ ⟨64, by rw [Nat.pow_succ]⟩
theorem dec1 (x : Int32) : x - 1 = x + Int32.ofInt (-1) := by
  rw [Int32.sub_eq_add_neg]
  rfl
section QIP
variable {d : Nat} {h : qH} {K : qK} {S : gS}
theorem l_ipF {k r c : Nat} {x : Int32} {g : qH} (hF : Fr [18] h g) (k0 : ∀ h3, Fr [18] h h3 → (∀ p, p < 4 → h3.1 18 p = h.1 25 p) → K (some (.int 0)) h3) : qAt (d + 5, 103, some .boolean, q0, K) 22 [some (.ref 15), some (.int (nI k)), some (.int (nI r)), some (.int (nI c)), some (.int 0), some (.int x)] [] g := by
  refine at_wp [] 40 (Nat.le_of_ble_eq_true rfl) rfl ?_
  refine And.intro (fun _ => ?_) (fun c => absurd rfl c)
  refine m_load (fun h3 f3 s3 => ?_)
  exact ⟨Or.inl rfl, k0 h3 (hF.tr f3) (fun p hp => by rw [s3 p hp, hF.1 25 (by decide)])⟩
theorem l_isPlan {k m c : Nat} (hm : m ≤ 3) (hc : c < 262144) : ∀ r, r ≤ m → ∀ T g, Fr [18] h g → RMc g T → GB T → k < T 0 0 → (gP k r T (c % 64 ^ r) = true → ∀ h3, Fr [18] h h3 → (∀ p, p < 4 → h3.1 18 p = h.1 25 p) → K (some (.int 1)) h3) → (gP k r T (c % 64 ^ r) = false → ∀ h3, Fr [18] h h3 → (∀ p, p < 4 → h3.1 18 p = h.1 25 p) → K (some (.int 0)) h3) → qAt (d + 5, 103, some .boolean, q0, K) 6 [some (.ref 15), some (.int (nI k)), some (.int (nI m)), some (.int (nI c)), some (.int 1), some (.int (nI r - 1))] [] g := by
  intro r
  induction r with
  | zero =>
    intro _ T g hF hM hB hk k1 k0
    refine at_wp [] 60 (Nat.le_of_ble_eq_true rfl) rfl ?_
    refine And.intro (fun _ => ?_) (fun c => absurd (by decide) c)
    refine And.intro (fun c => absurd c (by decide)) (fun _ => ?_)
    refine m_infers hM hB hk (fun b => ?_) (fun b => ?_)
    · refine And.intro (fun c => absurd c (by decide)) (fun _ => ?_)
      refine m_load (fun h3 f3 s3 => ?_)
      exact ⟨Or.inr rfl, k1 b h3 (hF.tr f3) (fun p hp => by rw [s3 p hp, hF.1 25 (by decide)])⟩
    · refine And.intro (fun _ => ?_) (fun c => absurd rfl c)
      refine m_load (fun h3 f3 s3 => ?_)
      exact ⟨Or.inl rfl, k0 b h3 (hF.tr f3) (fun p hp => by rw [s3 p hp, hF.1 25 (by decide)])⟩
  | succ r ih =>
    intro hr T g hF hM hB hk k1 k0
    rw [gP, cd_w2, cd_m2] at k1 k0
    have lw : c / 64 ^ r % 64 < 64 := Nat.mod_lt _ (by decide)
    rw [nI_pred]
    refine at_wp [6, 22] 60 (Nat.le_of_ble_eq_true rfl) rfl ?_
    refine And.intro (fun c => absurd c (nI_pos (by omega))) (fun _ => ?_)
    refine And.intro (fun c => absurd c (by decide)) (fun _ => ?_)
    show qCall _ 102 [.ref 15, .int (nI c >>> ((Int32.ofInt 6 * nI r) &&& 31) &&& Int32.ofInt 63)] g _
    rw [cd_sh hc r (by omega)]
    refine m_mayWord lw hM hB (fun b => ?_) (fun b => ?_)
    · rw [b, Bool.true_and] at k1 k0
      have ok := b
      unfold gok at ok
      simp only [Bool.and_eq_true, decide_eq_true_eq] at ok
      have ht : c / 64 ^ r % 64 / 4 % 4 < T 0 0 := ok.1.1.2
      have ls : c / 64 ^ r % 64 % 4 < 4 := Nat.mod_lt _ (by decide)
      have go := ih (by omega) (glrn T (c / 64 ^ r % 64)) _ (hF.I (by decide)) (hM.kn hB ht ls) (hB.kn ht ls) (by rw [glrn_o (by decide)]; exact hk) k1 k0
      rw [dec1] at go
      exact go
    · rw [b, Bool.false_and] at k0
      show qAt (d + 5, 103, some .boolean, q0, K) 6 [some (.ref 15), some (.int (nI k)), some (.int (nI m)), some (.int (nI c)), some (.int 0), some (.int (nI r + Int32.ofInt (-1)))] [] g
      refine at_wp [22] 20 (Nat.le_of_ble_eq_true rfl) rfl ?_
      refine And.intro (fun _ => l_ipF hF (k0 rfl)) (fun _ => ?_)
      refine And.intro (fun _ => ?_) (fun c => absurd rfl c)
      exact l_ipF hF (k0 rfl)
theorem m_isPlan {k m c : Nat} (hm : m ≤ 3) (hc : c < 64 ^ m) (hM : RMc h S) (hB : GB S) (hk : k < S 0 0) (k1 : gP k m S c = true → ∀ h3, Fr [18] h h3 → (∀ p, p < 4 → h3.1 18 p = h.1 25 p) → K (some (.int 1)) h3) (k0 : gP k m S c = false → ∀ h3, Fr [18] h h3 → (∀ p, p < 4 → h3.1 18 p = h.1 25 p) → K (some (.int 0)) h3) : qCall (d + 6) 103 [.ref 15, .int (nI k), .int (nI m), .int (nI c)] h K := by
  have hc2 : c < 262144 := Nat.lt_of_lt_of_le hc (Nat.pow_le_pow_right (n := 64) (by decide) hm)
  refine call_wp (n := 20) (cut := [6]) _ (by decide) (Nat.lt_succ_self _) rfl rfl (Nat.le_of_ble_eq_true rfl) rfl ?_
  exact l_isPlan hm hc2 m (Nat.le_refl _) S h Fr.rf hM hB hk (by rw [Nat.mod_eq_of_lt hc]; exact k1) (by rw [Nat.mod_eq_of_lt hc]; exact k0)
end QIP
end
section
/-! ## plans: the reference's answer -/
def plM (h g : qH) : Prop := Fr [18, 25] h g ∧ (∀ p, p < 4 → g.1 18 p = h.1 18 p) ∧ ∀ p, p < 4 → g.1 25 p = h.1 18 p
theorem plM.M {h g : qH} {S : gS} (f : plM h g) (hM : RMc h S) (hB : GB S) : RMc g S := by
  obtain ⟨⟨f1, f2⟩, e18, e25⟩ := f
  obtain ⟨m1, mp, mt, m7, m8, m9, m10, m11, mq⟩ := hM
  have hn := hB.1
  unfold RMc
  rw [f1 15 (by decide), f1 16 (by decide), f1 17 (by decide), f1 19 (by decide), f1 20 (by decide), f1 21 (by decide), f1 22 (by decide), f1 23 (by decide)]
  exact ⟨m1, fun p hp => ⟨(mp p hp).1, (mp p hp).2.1, by rw [e18 p (by omega)]; exact (mp p hp).2.2.1, (mp p hp).2.2.2⟩, mt, m7, m8, m9, m10, m11, mq⟩
theorem plM.step {h g k : qH} (f : plM h g) (F : Fr [18] g k) (e : ∀ p, p < 4 → k.1 18 p = g.1 25 p) : plM h k := by
  obtain ⟨f1, e18, e25⟩ := f
  exact ⟨f1.tr (F.mono (by decide)), fun p hp => by rw [e p hp, e25 p hp], fun p hp => by rw [F.1 25 (by decide), e25 p hp]⟩
theorem sh6 : ∀ m, m < 4 → Int32.ofInt 1 <<< ((Int32.ofInt 6 * nI m) &&& 31) = nI (64 ^ m) := by decide +kernel
theorem sub3 : ∀ m, m < 4 → ∀ i, i < m → nI m - Int32.ofInt 1 - nI i = nI (m - 1 - i) := by decide +kernel
def plW (w : Int32) : Prop := w = 0 ∨ ∃ i, i < 3 ∧ wix w = some i ∧ w - 10 = nI i ∧ ¬ w = 0
section QMP
variable {d : Nat} {h : qH} {K : qK} {S : gS}
theorem l_pnT {k m c : Nat} {w : Int32} {g : qH} (hm : m ≤ 3) (hc : c < 262144) (hw : plW w) (e : gfew S k 4 = some (m, c)) (kk : K (some (.int (gpl S k w))) g) : qAt (d + 6, 104, some .int, q0, K) 22 [some (.ref 15), some (.int (nI k)), some (.int w), some (.int (nI m)), some (.int (nI c))] [] g := by
  unfold gpl at kk
  rw [e] at kk
  dsimp only at kk
  refine at_wp [] 60 (Nat.le_of_ble_eq_true rfl) rfl ?_
  refine And.intro (fun c2 => ?_) (fun c2 => ?_)
  · have c2 : w = 0 := c2
    rw [if_pos c2] at kk
    exact kk
  · have c2 : ¬ w = 0 := c2
    rw [if_neg c2] at kk
    obtain ⟨i, i3, wi, w10, _⟩ := hw.resolve_left c2
    rw [wi] at kk
    dsimp only at kk
    refine And.intro (fun c4 => ?_) (fun c4 => ?_)
    · have c4 : nI m ≤ w - 10 := c4
      rw [w10] at c4
      rw [if_neg (fun z => absurd c4 (nI_ge z (by omega)))] at kk
      exact kk
    · have c4 : ¬ nI m ≤ w - 10 := c4
      rw [w10] at c4
      have im : i < m := by
        rcases Nat.lt_or_ge i m with q | q
        · exact q
        · exact absurd (nI_le q (by omega)) c4
      rw [if_pos im, ← cd_sh hc (m - 1 - i) (by omega), ← sub3 m (by omega) i im, ← w10] at kk
      exact kk
theorem l_pnI {k m N : Nat} {w : Int32} (hm : m ≤ 3) (eN : 64 ^ m = N) (hN : N ≤ 262144) (hM : RMc h S) (hB : GB S) (hk : k < S 0 0) (hw : plW w) (en : gfew S k m = none) (kk : ∀ g, plM h g → K (some (.int (gpl S k w))) g) (kN : gfew S k (m + 1) = none → ∀ g u, plM h g → qAt (d + 6, 104, some .int, q0, K) 4 [some (.ref 15), some (.int (nI k)), some (.int w), some (.int (nI (m + 1))), u] [] g) : ∀ j c, c + j = N → (∀ x, x < c → gP k m S x = false) → ∀ g, plM h g → qAt (d + 6, 104, some .int, q0, K) 9 [some (.ref 15), some (.int (nI k)), some (.int w), some (.int (nI m)), some (.int (nI c))] [] g := by
  intro j
  have e6 := sh6 m (by omega)
  rw [eN] at e6
  induction j with
  | zero =>
    intro c hc hz g f
    have hc : c = N := by omega
    subst hc
    refine at_wp [4] 30 (Nat.le_of_ble_eq_true rfl) rfl ?_
    refine And.intro (fun c1 => ?_) (fun c1 => ?_)
    · have f2 : gff (gP k m S) (64 ^ m) = none := gff_none _ (fun x hx => hz x (by rw [eN] at hx; exact hx))
      have f3 : gfew S k (m + 1) = none := by rw [gfew, en, f2]
      have := kN f3 g (some (.int (nI c))) f
      rw [← nI_1] at this
      exact this
    · have c1 : ¬ Int32.ofInt 1 <<< ((Int32.ofInt 6 * nI m) &&& 31) ≤ nI c := c1
      rw [e6] at c1
      exact absurd (nI_le (Nat.le_refl c) (by omega)) c1
  | succ j ih =>
    intro c hc hz g f
    have cN : c < 64 ^ m := by rw [eN]; omega
    refine at_wp [9,22] 40 (Nat.le_of_ble_eq_true rfl) rfl ?_
    refine And.intro (fun c1 => ?_) (fun c1 => ?_)
    · have c1 : Int32.ofInt 1 <<< ((Int32.ofInt 6 * nI m) &&& 31) ≤ nI c := c1
      rw [e6] at c1
      exact absurd c1 (nI_ge (by omega) (by omega))
    · refine m_isPlan hm cN (f.M hM hB) hB hk (fun b h3 f3 s3 => ?_) (fun b h3 f3 s3 => ?_)
      · refine And.intro (fun c => absurd c (by decide)) (fun _ => ?_)
        have fs := f.step f3 s3
        have f1 : gff (gP k m S) (64 ^ m) = some c := gff_some b hz _ cN
        have f2 : gfew S k (m + 1) = some (m, c) := by rw [gfew, en, f1]
        have f4 := gfew_up f2 (3 - m)
        rw [show m + 1 + (3 - m) = 4 by omega] at f4
        exact l_pnT hm (by omega) hw f4 (kk h3 fs)
      · refine And.intro (fun _ => ?_) (fun c => absurd rfl c)
        have := ih (c + 1) (by omega) (fun x hx => by
          rcases Nat.lt_or_ge x c with q | q
          · exact hz x q
          · rw [show x = c by omega]; exact b) h3 (f.step f3 s3)
        rw [← nI_1] at this
        exact this
theorem l_pnO {k : Nat} {w : Int32} (hM : RMc h S) (hB : GB S) (hk : k < S 0 0) (hw : plW w) (kk : ∀ g, plM h g → K (some (.int (gpl S k w))) g) : ∀ j m, m + j = 4 → gfew S k m = none → ∀ g u, plM h g → qAt (d + 6, 104, some .int, q0, K) 4 [some (.ref 15), some (.int (nI k)), some (.int w), some (.int (nI m)), u] [] g := by
  intro j
  induction j with
  | zero =>
    intro m hm e g u f
    have hm : m = 4 := by omega
    subst hm
    refine at_wp [] 12 (Nat.le_of_ble_eq_true rfl) rfl ?_
    refine And.intro (fun _ => ?_) (fun c => absurd (by decide) c)
    have := kk g f
    unfold gpl at this
    rw [e] at this
    exact this
  | succ j ih =>
    intro m hm e g u f
    refine at_wp [9] 12 (Nat.le_of_ble_eq_true rfl) rfl ?_
    refine And.intro (fun c => absurd c (nI_nlt (a := 3) (b := m) (by omega) (by decide))) (fun _ => ?_)
    refine l_pnI (N := 64 ^ m) (by omega) rfl ?_ hM hB hk hw e kk (fun e2 g u f => ih (m + 1) (by omega) e2 g u f) (64 ^ m) 0 (by omega) (fun x hx => by omega) g f
    exact Nat.pow_le_pow_right (n := 64) (j := 3) (by decide) (by omega)
theorem m_planNow {k : Nat} {w : Int32} (hM : RMc h S) (hB : GB S) (hk : k < S 0 0) (hw : plW w) (kk : ∀ g, plM h g → K (some (.int (gpl S k w))) g) : qCall (d + 7) 104 [.ref 15, .int (nI k), .int w] h K := by
  refine call_wp (n := 10) (cut := [4]) _ (by decide) (Nat.lt_succ_self _) rfl rfl (Nat.le_of_ble_eq_true rfl) rfl ?_
  refine m_save (fun g f e => ?_)
  exact l_pnO hM hB hk hw kk 4 0 rfl rfl g none ⟨f.mono (by decide), fun p hp => by rw [f.1 18 (by decide)], e⟩
theorem RM.plan {h g : qH} {S : gS} (hM : RM h S) (hB : GB S) (f : plM (qI h 15 15 (nI (S 12 0 + 1))) g) : RM g (sS S 12 0 (S 12 0 + 1)) := by
  obtain ⟨x1, x2, x3, x4, x5, x6, x7⟩ := hM
  have g0 : ∀ a, a ≠ 12 → sS S 12 0 (S 12 0 + 1) a = S a := fun a ha => sS_ne ha
  have k15 : ∀ k, k ≠ 15 → (qI h 15 15 (nI (S 12 0 + 1))).1 15 k = h.1 15 k := fun k hk => by rw [qI_get, if_neg (fun z => hk z.2)]
  have hM2 : RMc (qI h 15 15 (nI (S 12 0 + 1))) S := x1.h (fun k hk => k15 k (by omega)) (fun a h1 h2 => qI_ne (by omega))
  have hM3 : RMc g (sS S 12 0 (S 12 0 + 1)) := (f.M hM2 hB).S (fun a ha => g0 a (by omega))
  obtain ⟨⟨f1, f2⟩, e18, e25⟩ := f
  have e15 := f1 15 (by decide)
  have ex : ∀ a, a ≠ 15 → a ≠ 18 → a ≠ 25 → g.1 a = h.1 a := fun a h1 h2 h3 => (f1 a (by simp [h2, h3])).trans (qI_ne h1)
  unfold RM
  rw [e15, k15 16 (by decide), k15 0 (by decide), k15 22 (by decide), k15 23 (by decide), ex 24 (by decide) (by decide) (by decide), g0 10 (by decide), g0 11 (by decide), g0 13 (by decide), sS_nb (show (1 : Nat) ≠ 0 by decide), sS_eq]
  refine ⟨hM3, ?_, x3, x4, x5, x6, fun z => ?_⟩
  · rw [qI_get, if_pos ⟨rfl, rfl⟩]
  · have q := x7 z
    unfold RMk at q ⊢
    rw [e15, k15 24 (by decide), k15 25 (by decide), k15 26 (by decide), k15 27 (by decide), k15 28 (by decide), ex 26 (by decide) (by decide) (by decide), ex 27 (by decide) (by decide) (by decide), ex 28 (by decide) (by decide) (by decide), ex 29 (by decide) (by decide) (by decide), ex 30 (by decide) (by decide) (by decide), g0 14 (by decide), g0 15 (by decide), g0 16 (by decide), g0 17 (by decide), g0 18 (by decide), g0 19 (by decide), g0 0 (by decide)]
    exact q
theorem l_mp15 {n : Nat} {w : Int32} (hM : RM h S) (hG : RG S) (hn : n < S 0 0) (hw : plW w) (hk : ∀ h', Fr lM h h' → RM h' (if okPlan S n = true then sS S 12 0 (S 12 0 + 1) else S) → K (some (.int (if okPlan S n = true then gpl S n w else -103))) h') : qAt (d + 7, 105, some .int, q0, K) 15 [some (.ref 15), some (.int (nI n)), some (.int w)] [] h := by
  have hB := hG.1
  have hn0 := hB.1
  have h12 := hG.2.2.2.2.1
  have e8 := hM.2.1
  have bad : okPlan S n = false → K (some (.int (-103))) h := fun z => by
    have := hk h Fr.rf
    rw [z] at this
    exact this hM
  refine at_wp [] 60 (Nat.le_of_ble_eq_true rfl) rfl ?_
  refine m_isKing hM.1 hB hn (fun b1 => ?_) (fun b1 => ?_)
  · refine And.intro (fun c => absurd c (by decide)) (fun _ => ?_)
    show qCall _ 74 [.int (h.1 15 8), .int (nI n)] h _
    rw [hM.1.2.2.2.2.1]
    refine m_isIn (by have := hB.2.2.2.1; omega) (by omega) (fun b2 => ?_) (fun b2 => ?_)
    · refine And.intro (fun c => absurd c (by decide)) (fun _ => ?_)
      exact bad (by unfold okPlan; rw [b2]; simp)
    · refine And.intro (fun _ => ?_) (fun c => absurd rfl c)
      refine And.intro (fun c1 => ?_) (fun c1 => ?_)
      · have c1 : h.1 15 15 = nI 12 := c1
        rw [e8, nI_eq (by omega) (by omega)] at c1
        refine bad ?_
        unfold okPlan
        rw [show decide (S 12 0 < 12) = false from decide_eq_false (by omega)]
        simp
      · have c1 : ¬ h.1 15 15 = nI 12 := c1
        rw [e8, nI_eq (by omega) (by omega)] at c1
        have ok : okPlan S n = true := by
          unfold okPlan
          rw [b1, b2, decide_eq_true (show S 12 0 < 12 by omega)]
          rfl
        simp only [if_pos ok] at hk
        show qCall _ 104 [.ref 15, .int (nI n), .int w] (qI h 15 15 (h.1 15 15 + 1)) _
        rw [e8, nI_1]
        have hM2 : RMc (qI h 15 15 (nI (S 12 0 + 1))) S := hM.1.h (fun k hk => by rw [qI_get, if_neg (fun z => by omega)]) (fun a h1 h2 => qI_ne (by omega))
        refine m_planNow hM2 hB hn hw (fun g f => ?_)
        exact hk g ((Fr.rf.I (by decide)).tr (f.1.mono (by decide))) (hM.plan hB f)
  · refine And.intro (fun _ => ?_) (fun c => absurd rfl c)
    exact bad (by unfold okPlan; rw [b1]; rfl)
theorem m_plan {p w : Int32} (hM : RM h S) (hG : RG S) (hk : ∀ h', Fr lM h h' → RM h' (uPlan S p w) → K (some (.int (aPlan S p w))) h') : qCall (d + 8) 105 [.ref 15, .int p, .int w] h K := by
  have hB := hG.1
  have hn0 := hB.1
  unfold aPlan uPlan at hk
  refine call_wp (n := 30) (cut := [15]) _ (by decide) (Nat.lt_succ_self _) rfl rfl (Nat.le_of_ble_eq_true rfl) rfl ?_
  refine m_isOne hM.1 hB (fun n hn ep => ?_) (fun hne => ?_)
  · subst ep
    rw [show ip S (nI n) = some n from ix_some hn (by omega)] at hk
    dsimp only at hk
    refine And.intro (fun c => absurd c (by decide)) (fun _ => ?_)
    refine And.intro (fun c1 => ?_) (fun c1 => ?_)
    · have c1 : w = 0 := c1
      simp only [if_pos (show w = 0 ∨ (wix w).isSome = true from Or.inl c1)] at hk
      exact l_mp15 hM hG hn (Or.inl c1) hk
    · have c1 : ¬ w = 0 := c1
      refine m_within (lo := 10) (hi := 12) (by decide) (by decide) (fun j h1 h2 e => ?_) (fun hj => ?_)
      · refine And.intro (fun c => absurd c (by decide)) (fun _ => ?_)
        subst e
        obtain ⟨i, i3, wi, w10, w0⟩ := wix_s (w := nI j) (nI_nlt (b := 10) h1 (by omega)) (nI_lt (b := 13) (by omega) (by decide))
        simp only [if_pos (show nI j = 0 ∨ (wix (nI j)).isSome = true from Or.inr (by rw [wi]; rfl))] at hk
        exact l_mp15 hM hG hn (Or.inr ⟨i, i3, wi, w10, w0⟩) hk
      · refine And.intro (fun _ => ?_) (fun c => absurd rfl c)
        have zz : ¬ (w = 0 ∨ (wix w).isSome = true) := by
          have : wix w = none := by
            unfold wix
            rw [if_neg (show ¬ w = 10 from hj 10 (by decide) (by decide)), if_neg (show ¬ w = 11 from hj 11 (by decide) (by decide)), if_neg (show ¬ w = 12 from hj 12 (by decide) (by decide))]
          rw [this]
          simp [c1]
        simp only [if_neg zz] at hk
        exact hk h Fr.rf hM
  · rw [show ip S p = none from ix_none (by omega) hne] at hk
    refine And.intro (fun _ => ?_) (fun c => absurd rfl c)
    exact hk h Fr.rf hM
end QMP
end
section
/-! ## the page: what fits where, the first fault, the court of a page without one -/
def kdN (c : Nat) : Nat := if c = 109 then 0 else if c = 107 then 1 else if c = 99 then 2 else if c = 110 then 3 else if c = 113 then 4 else 5
def kdI (c : Nat) : Int32 := if kdN c = 5 then -1 else nI (kdN c)
def dg (x lo hi : Nat) : Bool := decide (48 + lo ≤ x) && decide (x ≤ 48 + hi)
def fitP (c : Nat → Nat) (i : Nat) : Bool := match i % 4 with
  | 0 => kdN (c i) != 5
  | 1 => dg (c i) 1 9
  | 2 => dg (c i) 0 4
  | _ => (c i == 44 && decide (i < 15)) || (c i == 59 && decide (7 ≤ i))
def stE (c : Nat → Nat) : Nat → Option Nat
  | 0 => none
  | i + 1 => match stE c i with
    | some e => some e
    | none => if c i = 59 then some i else none
def fit (c : Nat → Nat) (i : Nat) : Bool := match stE c i with
  | none => fitP c i
  | some e => decide (i < e + 5) && dg (c i) 1 9
def gfa (c : Nat → Nat) : Nat → Nat → Nat
  | i, 0 => i
  | i, n + 1 => if fit c i = true then gfa c (i + 1) n else i
def gwh (c : Nat → Nat) (L : Nat) : Bool := decide (gfa c 0 L = L) && decide (5 ≤ L) && c (L - 5) == 59
theorem gfa_all {c : Nat → Nat} : ∀ n i, (∀ j, j < n → fit c (i + j) = true) → gfa c i n = i + n
  | 0, i, _ => rfl
  | n + 1, i, h => by
    have h0 := h 0 (by omega)
    rw [Nat.add_zero] at h0
    rw [gfa, if_pos h0, gfa_all n (i + 1) (fun j hj => by rw [show i + 1 + j = i + (j + 1) by omega]; exact h (j + 1) (by omega))]
    omega
theorem gfa_bad {c : Nat → Nat} : ∀ n i k, k < n → (∀ j, j < k → fit c (i + j) = true) → fit c (i + k) = false → gfa c i n = i + k
  | 0, i, k, hk, _, _ => by omega
  | n + 1, i, 0, _, _, hf => by
    rw [Nat.add_zero] at hf
    rw [gfa, hf]
    rfl
  | n + 1, i, k + 1, hk, h, hf => by
    have h0 := h 0 (by omega)
    rw [Nat.add_zero] at h0
    rw [gfa, if_pos h0, gfa_bad n (i + 1) k (by omega) (fun j hj => by rw [show i + 1 + j = i + (j + 1) by omega]; exact h (j + 1) (by omega)) (by rw [show i + 1 + k = i + (k + 1) by omega]; exact hf)]
    omega
theorem gfa_inv {c : Nat → Nat} : ∀ n i, gfa c i n = i + n → ∀ j, j < n → fit c (i + j) = true
  | 0, i, _, j, hj => by omega
  | n + 1, i, h, j, hj => by
    rw [gfa] at h
    by_cases e : fit c i = true
    · rw [if_pos e] at h
      match j, hj with
      | 0, _ => exact e
      | j + 1, hj =>
        have := gfa_inv (c := c) n (i + 1) (by omega) j (by omega)
        rw [show i + 1 + j = i + (j + 1) by omega] at this
        exact this
    · rw [if_neg e] at h
      omega
theorem gfa_L {c : Nat → Nat} {L : Nat} (h : ∀ j, j < L → fit c j = true) : gfa c 0 L = L := by
  have := gfa_all (c := c) L 0 (fun j hj => by rw [Nat.zero_add]; exact h j hj)
  omega
theorem gfa_k {c : Nat → Nat} {L k : Nat} (hk : k < L) (h : ∀ j, j < k → fit c j = true) (hf : fit c k = false) : gfa c 0 L = k := by
  have := gfa_bad (c := c) L 0 k hk (fun j hj => by rw [Nat.zero_add]; exact h j hj) (by rw [Nat.zero_add]; exact hf)
  omega
theorem gfa_i {c : Nat → Nat} {L : Nat} (h : gfa c 0 L = L) : ∀ j, j < L → fit c j = true := by
  intro j hj
  have := gfa_inv (c := c) L 0 (by omega) j hj
  rw [Nat.zero_add] at this
  exact this
theorem gfa_le {c : Nat → Nat} : ∀ n i, gfa c i n ≤ i + n
  | 0, i => Nat.le_refl _
  | n + 1, i => by
    rw [gfa]
    split
    · have := gfa_le (c := c) n (i + 1)
      omega
    · omega
theorem stE_lt {c : Nat → Nat} : ∀ i e, stE c i = some e → e < i ∧ c e = 59
  | 0, e, h => by cases h
  | i + 1, e, h => by
    rw [stE] at h
    cases z : stE c i with
    | some x =>
      rw [z] at h
      cases h
      have := stE_lt i e z
      exact ⟨by omega, this.2⟩
    | none =>
      rw [z] at h
      dsimp only at h
      by_cases e1 : c i = 59
      · rw [if_pos e1] at h
        cases h
        exact ⟨by omega, e1⟩
      · rw [if_neg e1] at h
        cases h
theorem stE_up {c : Nat → Nat} {i e : Nat} (h : stE c i = some e) : ∀ n, stE c (i + n) = some e
  | 0 => h
  | n + 1 => by
    rw [← Nat.add_assoc, stE, stE_up h n]
theorem stE_ge {c : Nat → Nat} {i j e : Nat} (h : stE c i = some e) (hj : i ≤ j) : stE c j = some e := by
  have := stE_up h (j - i)
  rw [show i + (j - i) = j by omega] at this
  exact this
theorem stE_down {c : Nat → Nat} {i j : Nat} (h : stE c i = none) (hj : j ≤ i) : stE c j = none := by
  cases e : stE c j with
  | none => rfl
  | some x =>
    rw [stE_ge e hj] at h
    cases h
theorem stE_hit {c : Nat → Nat} {i : Nat} (h : stE c i = none) (e : c i = 59) : stE c (i + 1) = some i := by
  rw [stE, h]
  exact if_pos e
theorem stE_miss {c : Nat → Nat} {i : Nat} (h : stE c i = none) (e : c i ≠ 59) : stE c (i + 1) = none := by
  rw [stE, h]
  exact if_neg e
theorem stE_no {c : Nat → Nat} : ∀ i, stE c i = none → ∀ j, j < i → c j ≠ 59
  | 0, _, j, hj => by omega
  | i + 1, h, j, hj => by
    intro z
    have h0 := stE_down h (show j ≤ i + 1 by omega)
    have := stE_hit h0 z
    rw [stE_ge this (show j + 1 ≤ i + 1 by omega)] at h
    cases h
theorem fit_n {c : Nat → Nat} {i : Nat} (h : stE c i = none) : fit c i = fitP c i := by
  unfold fit
  rw [h]
theorem fit_s {c : Nat → Nat} {i e : Nat} (h : stE c i = some e) : fit c i = (decide (i < e + 5) && dg (c i) 1 9) := by
  unfold fit
  rw [h]
theorem fitP_0 {c : Nat → Nat} {i : Nat} (h : i % 4 = 0) : fitP c i = (kdN (c i) != 5) := by
  unfold fitP
  rw [h]
  rfl
theorem fitP_1 {c : Nat → Nat} {i : Nat} (h : i % 4 = 1) : fitP c i = dg (c i) 1 9 := by
  unfold fitP
  rw [h]
  rfl
theorem fitP_2 {c : Nat → Nat} {i : Nat} (h : i % 4 = 2) : fitP c i = dg (c i) 0 4 := by
  unfold fitP
  rw [h]
  rfl
theorem fitP_3 {c : Nat → Nat} {i : Nat} (h : i % 4 = 3) : fitP c i = ((c i == 44 && decide (i < 15)) || (c i == 59 && decide (7 ≤ i))) := by
  unfold fitP
  rw [h]
  rfl
theorem dg_59 {lo hi : Nat} (h : hi < 11) : dg 59 lo hi = false := by
  unfold dg
  rw [show decide (59 ≤ 48 + hi) = false from decide_eq_false (by omega), Bool.and_false]
theorem kdN_le (c : Nat) : kdN c ≤ 5 := by
  unfold kdN
  split
  · omega
  · split
    · omega
    · split
      · omega
      · split
        · omega
        · split <;> omega
theorem dg_i {x lo hi : Nat} (h : dg x lo hi = true) : 48 + lo ≤ x ∧ x ≤ 48 + hi := by
  unfold dg at h
  simp only [Bool.and_eq_true, decide_eq_true_eq] at h
  exact h
/-- a whole page: people, the sign behind them, four digits -/
theorem gwh_i {c : Nat → Nat} {L : Nat} (hL : L ≤ 22) (h : gwh c L = true) : ∃ P, 2 ≤ P ∧ P ≤ 4 ∧ L = 4 * P + 4 ∧ (∀ p, p < P → kdN (c (4 * p)) < 5 ∧ dg (c (4 * p + 1)) 1 9 = true ∧ dg (c (4 * p + 2)) 0 4 = true) ∧ ∀ k, k < 4 → dg (c (4 * P + k)) 1 9 = true := by
  unfold gwh at h
  simp only [Bool.and_eq_true, decide_eq_true_eq, beq_iff_eq] at h
  obtain ⟨⟨h1, h5⟩, h59⟩ := h
  have hall := gfa_i h1
  have he := hall (L - 5) (by omega)
  have n0 : stE c (L - 5) = none := by
    cases z : stE c (L - 5) with
    | none => rfl
    | some x =>
      rw [fit_s z, h59, dg_59 (by decide), Bool.and_false] at he
      cases he
  rw [fit_n n0] at he
  have hs := stE_hit n0 h59
  rcases (show (L - 5) % 4 = 0 ∨ (L - 5) % 4 = 1 ∨ (L - 5) % 4 = 2 ∨ (L - 5) % 4 = 3 by omega) with m | m | m | m
  · rw [fitP_0 m, h59] at he
    exact absurd he (by decide)
  · rw [fitP_1 m, h59] at he
    exact absurd he (by decide)
  · rw [fitP_2 m, h59] at he
    exact absurd he (by decide)
  · rw [fitP_3 m, h59] at he
    have e7 : 7 ≤ L - 5 := by simpa using he
    refine ⟨L / 4 - 1, by omega, by omega, by omega, fun p hp => ⟨?_, ?_, ?_⟩, fun k hk => ?_⟩
    · have := hall (4 * p) (by omega)
      rw [fit_n (stE_down n0 (by omega)), fitP_0 (by omega)] at this
      have h6 := kdN_le (c (4 * p))
      have h7 : kdN (c (4 * p)) ≠ 5 := by simpa using this
      omega
    · have := hall (4 * p + 1) (by omega)
      rw [fit_n (stE_down n0 (by omega)), fitP_1 (by omega)] at this
      exact this
    · have := hall (4 * p + 2) (by omega)
      rw [fit_n (stE_down n0 (by omega)), fitP_2 (by omega)] at this
      exact this
    · have := hall (4 * (L / 4 - 1) + k) (by omega)
      rw [fit_s (stE_ge hs (by omega)), Bool.and_eq_true] at this
      exact this.2
theorem gwh_t {c : Nat → Nat} {L e : Nat} (h : ∀ j, j < L → fit c j = true) (he : c e = 59) (hL : L = e + 5) : gwh c L = true := by
  unfold gwh
  rw [gfa_L h, decide_eq_true rfl, decide_eq_true (show 5 ≤ L by omega), show L - 5 = e by omega, he]
  rfl
theorem gwh_f {c : Nat → Nat} {L : Nat} (h : gfa c 0 L ≠ L) : gwh c L = false := by
  unfold gwh
  rw [decide_eq_false h]
  rfl
theorem gwh_n {c : Nat → Nat} {L : Nat} (h : stE c L = none) : gwh c L = false := by
  unfold gwh
  by_cases h5 : 5 ≤ L
  · rw [show (c (L - 5) == 59) = false from beq_eq_false_iff_ne.mpr (stE_no L h _ (by omega)), Bool.and_false]
  · rw [decide_eq_false h5]
    simp
theorem gwh_s {c : Nat → Nat} {L e : Nat} (h : stE c L = some e) (hn : L ≠ e + 5) : gwh c L = false := by
  cases z : gwh c L with
  | false => rfl
  | true =>
    exfalso
    unfold gwh at z
    simp only [Bool.and_eq_true, decide_eq_true_eq, beq_iff_eq] at z
    obtain ⟨⟨h1, h5⟩, h59⟩ := z
    have hf := gfa_i h1 (L - 5) (by omega)
    cases q : stE c (L - 5) with
    | some x =>
      rw [fit_s q, h59, dg_59 (by decide), Bool.and_false] at hf
      cases hf
    | none =>
      have := stE_ge (stE_hit q h59) (show L - 5 + 1 ≤ L by omega)
      rw [h] at this
      cases this
      omega
/-- the court that is read -/
def fkn (f : Nat) : Nat := if f = 4 then 0 else 1 <<< f
def gct (S : gS) : gS := fun x y => if x = 0 then (if y = 0 then S 10 0 / 4 - 1 else S x y) else if x = 1 then kdN (S 11 (4 * y)) else if x = 2 then S 11 (4 * y + 1) - 48 else if x = 3 then S 11 (4 * (S 10 0 / 4 - 1) + y) - 48 else if x = 4 then fkn (S 11 (4 * y + 2) - 48) else if x = 5 then 0 else if x = 6 then 0 else if x = 10 then 0 else if x = 12 then (if y = 1 then S 12 1 + 1 else S x y) else if x = 13 then 0 else S x y
def aFault (S : gS) : Int32 := nI (gfa (S 11) 0 (S 10 0))
def aCourt (S : gS) : Int32 := if gwh (S 11) (S 10 0) = true then nI (S 10 0 / 4 - 1) else -103
def uCourt (S : gS) : gS := if gwh (S 11) (S 10 0) = true then gct S else S
theorem fkn_lt : ∀ f, f < 5 → fkn f < 16 := by decide +kernel
theorem gct_B {S : gS} (hL : S 10 0 ≤ 22) (h : gwh (S 11) (S 10 0) = true) : GB (gct S) := by
  obtain ⟨P, p2, p4, e, hp, hk⟩ := gwh_i hL h
  have eP : S 10 0 / 4 - 1 = P := by omega
  refine ⟨?_, fun p hpp => ?_, fun k hk4 => ?_, by show (0 : Nat) < 16; decide, by show (0 : Nat) < 16; decide, by show (0 : Nat) < 16; decide⟩
  · show S 10 0 / 4 - 1 ≤ 4
    omega
  · have hpp : p < S 10 0 / 4 - 1 := hpp
    obtain ⟨q1, q2, q3⟩ := hp p (by omega)
    have q2 := dg_i q2
    have q3 := dg_i q3
    refine ⟨q1, ?_, ?_⟩
    · show S 11 (4 * p + 1) - 48 < 10
      omega
    · show fkn (S 11 (4 * p + 2) - 48) < 16
      exact fkn_lt _ (by omega)
  · show S 11 (4 * (S 10 0 / 4 - 1) + k) - 48 < 10
    rw [eP]
    have := dg_i (hk k hk4)
    omega
end
section
/-! ## the class's page -/
def pgX (h : qH) (S : gS) : Prop := h.1 1 1 = nI (S 10 0) ∧ ∀ i, i < S 10 0 → h.1 2 i = nI (S 11 i)
def pgB (S : gS) : Prop := S 10 0 ≤ 22 ∧ ∀ i, i < S 10 0 → 32 ≤ S 11 i ∧ S 11 i ≤ 126
theorem RX.pg {h : qH} {S : gS} (hX : RX h S) : pgX h S := ⟨hX.2.2.2.2.2.2.1, hX.2.2.2.2.2.2.2⟩
theorem RG.pg {S : gS} (hG : RG S) : pgB S := ⟨hG.2.2.2.2.2.1, hG.2.2.2.2.2.2⟩
def oI (o : Option Nat) : Int32 := match o with
  | none => -1
  | some e => nI e
theorem io_hit : ∀ c, c < 127 → ∀ i, i < 5 → qstr.getD i 0 = nI c → kdI c = nI i := by decide +kernel
theorem io_no : ∀ c, c < 127 → (∀ i, i < 5 → qstr.getD i 0 ≠ nI c) → kdI c = -1 := by decide +kernel
theorem b8 : ∀ c, c < 127 → (nI c).toInt8.toInt32 = nI c := by decide +kernel
theorem u16 : ∀ c, c < 127 → ((nI c).toUInt32 % 65536).toInt32 = nI c := by decide +kernel
theorem dgx : ∀ x, x < 127 → ∀ n, n < 10 → ((nI x - 48 < nI n ↔ x < 48 + n) ∧ (nI n < nI x - 48 ↔ 48 + n < x)) := by decide +kernel
theorem im4 : ∀ i, i < 32 → nI i - nI i / nI 4 * nI 4 = nI (i % 4) := by decide +kernel
theorem kdI_m : ∀ x, x < 127 → (kdI x = -1 ↔ kdN x = 5) := by decide +kernel
theorem nI_m1 : ∀ e, e < 32 → ¬ nI e = -1 := by decide +kernel
section QPG
variable {d : Nat} {h : qH} {K : qK} {S : gS}
theorem c_atP {i : Nat} (hp : pgX h S) (hg : pgB S) (hi : i < S 10 0) (hk : K (some (.int (nI (S 11 i)))) h) : qCall (d + 1) 3 [.ref 1, .int (nI i)] h K := by
  have h10 := hg.1
  have e := hp.1
  have ei := hp.2 i hi
  have ec : (nI i).toNatClampNeg = i := nI_clamp (by omega)
  refine call_wp (n := 30) (cut := []) _ (by decide) (Nat.lt_succ_self _) rfl rfl (Nat.le_of_ble_eq_true rfl) rfl ?_
  refine And.intro (fun c => absurd c (Int32.not_lt.mpr (nI_le (a := 0) (Nat.zero_le _) (by omega)))) (fun _ => ?_)
  refine And.intro (fun c => absurd c (by show ¬ h.1 1 1 ≤ nI i; rw [e]; exact nI_ge (by omega) (by omega))) (fun _ => ?_)
  refine And.intro (fun c => absurd c (nI_ge (a := i) (b := 22) (by omega) (by decide))) (fun _ => ?_)
  refine And.intro (vp_in_nI (by omega) (by decide)) ?_
  show K (some (.int (h.1 2 (nI i).toNatClampNeg))) h
  rw [ec]
  exact kI hk ei.symm
theorem c_atNeg {p : Int32} (hp : p < 0) (hk : K (some (.int 0)) h) : qCall (d + 1) 3 [.ref 1, .int p] h K := by
  refine call_wp (n := 30) (cut := []) _ (by decide) (Nat.lt_succ_self _) rfl rfl (Nat.le_of_ble_eq_true rfl) rfl ?_
  refine And.intro (fun _ => ?_) (fun c => absurd hp c)
  exact hk
theorem c_digitAt {i : Nat} (hp : pgX h S) (hg : pgB S) (hi : i < S 10 0) (hk : K (some (.int (nI (S 11 i) - 48))) h) : qCall (d + 2) 4 [.ref 1, .int (nI i)] h K := by
  refine call_wp (n := 20) (cut := []) _ (by decide) (Nat.lt_succ_self _) rfl rfl (Nat.le_of_ble_eq_true rfl) rfl ?_
  exact c_atP hp hg hi hk
/-! the text's indexOf -/
theorem l_ioc {c : Nat} (hc : c < 127) (hk : K (some (.int (kdI c))) h) : ∀ m i, i + m = 5 → (∀ j, j < i → qstr.getD j 0 ≠ nI c) → qAt (d, 131, some .int, q0, K) 5 [some (.ref 98), some (.int (nI c)), some (.int 0), some (.int (nI 5)), some (.int (nI c)), some (.int (nI i))] [] h := by
  intro m
  induction m with
  | zero =>
    intro i hi hn
    have hi : i = 5 := by omega
    subst hi
    refine at_wp [] 12 (Nat.le_of_ble_eq_true rfl) rfl ?_
    refine And.intro (fun _ => ?_) (fun c => absurd (by decide) c)
    rw [io_no c hc hn] at hk
    exact hk
  | succ m ih =>
    intro i hi hn
    have ec : (nI i).toNatClampNeg = i := nI_clamp (by omega)
    refine at_wp [5] 30 (Nat.le_of_ble_eq_true rfl) rfl ?_
    refine And.intro (fun z => absurd z (nI_ge (a := i) (b := 5) (by omega) (by decide))) (fun _ => ?_)
    refine And.intro (vp_in_nI (by omega) (by decide)) ?_
    refine And.intro (fun z => ?_) (fun z => ?_)
    · have z : qstr.getD (nI i).toNatClampNeg 0 = nI c := z
      rw [ec] at z
      rw [io_hit c hc i (by omega) z] at hk
      exact hk
    · have z : ¬ qstr.getD (nI i).toNatClampNeg 0 = nI c := z
      rw [ec] at z
      have := ih (i + 1) (by omega) (fun j hj => by
        rcases Nat.lt_or_ge j i with q | q
        · exact hn j q
        · rw [show j = i by omega]; exact z)
      rw [← nI_1 i] at this
      exact this
theorem c_ioc {c : Nat} {a b : Int32} (hc : c < 127) (ea : a = 0) (eb : b = nI 5) (hk : K (some (.int (kdI c))) h) : qCall (d + 1) 131 [.ref 98, .int (nI c), .int a, .int b] h K := by
  subst ea
  subst eb
  refine call_wp (n := 10) (cut := [5]) _ (by decide) (Nat.lt_succ_self _) rfl rfl (Nat.le_of_ble_eq_true rfl) rfl ?_
  show qAt _ 5 [some (.ref 98), some (.int (nI c)), some (.int 0), some (.int (nI 5)), some (.int (nI c).toInt8.toInt32), some (.int (nI 0))] [] h
  rw [b8 c hc]
  exact l_ioc hc hk 5 0 rfl (fun j hj => by omega)
theorem c_canEncode {c : Nat} (hc : c < 127) (hk : K (some (.int 1)) h) : qCall (d + 1) 130 [.int (nI c)] h K := by
  refine call_wp (n := 20) (cut := []) _ (by decide) (Nat.lt_succ_self _) rfl rfl (Nat.le_of_ble_eq_true rfl) rfl ?_
  refine And.intro (fun z => absurd z (nI_pos (by omega))) (fun _ => ?_)
  refine And.intro (fun z => absurd z (nI_nlt (a := 255) (b := c) (by omega) (by decide))) (fun _ => ?_)
  exact ⟨Or.inr rfl, hk⟩
theorem c_ioB {c : Nat} {a b : Int32} (hc : c < 127) (ea : a = 0) (eb : b = nI 5) (hk : K (some (.int (kdI c))) h) : qCall (d + 2) 132 [.ref 98, .int (nI c), .int a, .int b] h K := by
  subst ea
  subst eb
  refine call_wp (n := 40) (cut := []) _ (by decide) (Nat.lt_succ_self _) rfl rfl (Nat.le_of_ble_eq_true rfl) rfl ?_
  refine c_canEncode hc ?_
  refine And.intro (fun c => absurd c (by decide)) (fun _ => ?_)
  refine And.intro (fun _ => ?_) (fun c => absurd (by decide) c)
  exact c_ioc hc (by decide) (by decide) hk
theorem c_isLatin1 (hk : K (some (.int 1)) h) : qCall (d + 1) 127 [.ref 97] h K := by
  refine call_wp (n := 20) (cut := []) _ (by decide) (Nat.lt_succ_self _) rfl rfl (Nat.le_of_ble_eq_true rfl) rfl ?_
  refine And.intro (fun c => absurd c (by decide)) (fun _ => ?_)
  refine And.intro (fun _ => ?_) (fun c => absurd rfl c)
  exact ⟨Or.inr rfl, hk⟩
theorem c_coder (hk : K (some (.int 0)) h) : qCall (d + 1) 128 [.ref 97] h K := by
  refine call_wp (n := 20) (cut := []) _ (by decide) (Nat.lt_succ_self _) rfl rfl (Nat.le_of_ble_eq_true rfl) rfl ?_
  refine And.intro (fun c => absurd c (by decide)) (fun _ => ?_)
  exact ⟨rfl, hk⟩
theorem c_length (hk : K (some (.int (nI 5))) h) : qCall (d + 2) 129 [.ref 97] h K := by
  refine call_wp (n := 20) (cut := []) _ (by decide) (Nat.lt_succ_self _) rfl rfl (Nat.le_of_ble_eq_true rfl) rfl ?_
  exact c_coder (kI hk (by decide))
theorem c_io3 {c : Nat} {a : Int32} (hc : c < 127) (ea : a = 0) (hk : K (some (.int (kdI c))) h) : qCall (d + 3) 133 [.ref 97, .int (nI c), .int a] h K := by
  refine call_wp (n := 40) (cut := []) _ (by decide) (Nat.lt_succ_self _) rfl rfl (Nat.le_of_ble_eq_true rfl) rfl ?_
  refine c_isLatin1 ?_
  refine And.intro (fun c => absurd c (by decide)) (fun _ => ?_)
  refine c_length ?_
  exact c_ioB hc ea rfl hk
theorem c_io {c : Nat} (hc : c < 127) (hk : K (some (.int (kdI c))) h) : qCall (d + 4) 134 [.ref 97, .int (nI c)] h K := by
  refine call_wp (n := 20) (cut := []) _ (by decide) (Nat.lt_succ_self _) rfl rfl (Nat.le_of_ble_eq_true rfl) rfl ?_
  exact c_io3 hc rfl hk
theorem c_kindAt {i : Nat} (hp : pgX h S) (hg : pgB S) (hi : i < S 10 0) (hk : K (some (.int (kdI (S 11 i)))) h) : qCall (d + 5) 5 [.ref 1, .int (nI i)] h K := by
  have hb := hg.2 i hi
  refine call_wp (n := 20) (cut := []) _ (by decide) (Nat.lt_succ_self _) rfl rfl (Nat.le_of_ble_eq_true rfl) rfl ?_
  refine c_atP hp hg hi ?_
  show qCall _ 134 [.ref 97, .int ((nI (S 11 i)).toUInt32 % 65536).toInt32] h _
  rw [u16 _ (by omega)]
  exact c_io (by omega) hk
theorem c_isDigit {i lo hi : Nat} (hp : pgX h S) (hg : pgB S) (hl : lo < 10) (hh : hi < 10) (hi' : i < S 10 0) (k1 : dg (S 11 i) lo hi = true → K (some (.int 1)) h) (k0 : dg (S 11 i) lo hi = false → K (some (.int 0)) h) : qCall (d + 3) 10 [.ref 1, .int (nI i), .int (nI lo), .int (nI hi)] h K := by
  have hb := hg.2 i hi'
  refine call_wp (n := 30) (cut := []) _ (by decide) (Nat.lt_succ_self _) rfl rfl (Nat.le_of_ble_eq_true rfl) rfl ?_
  refine c_digitAt hp hg hi' ?_
  refine And.intro (fun z => ?_) (fun z => ?_)
  · have z : nI (S 11 i) - 48 < nI lo := z
    rw [(dgx _ (by omega) lo hl).1] at z
    exact ⟨Or.inl rfl, k0 (by unfold dg; rw [decide_eq_false (by omega)]; rfl)⟩
  · have z : ¬ nI (S 11 i) - 48 < nI lo := z
    rw [(dgx _ (by omega) lo hl).1] at z
    refine c_digitAt hp hg hi' ?_
    refine And.intro (fun y => ?_) (fun y => ?_)
    · have y : nI hi < nI (S 11 i) - 48 := y
      rw [(dgx _ (by omega) hi hh).2] at y
      exact ⟨Or.inl rfl, k0 (by unfold dg; rw [show decide (S 11 i ≤ 48 + hi) = false from decide_eq_false (by omega), Bool.and_false])⟩
    · have y : ¬ nI hi < nI (S 11 i) - 48 := y
      rw [(dgx _ (by omega) hi hh).2] at y
      exact ⟨Or.inr rfl, k1 (by unfold dg; rw [decide_eq_true (by omega), decide_eq_true (by omega)]; rfl)⟩
theorem c_fitsAmounts {i e : Nat} (hp : pgX h S) (hg : pgB S) (hi : i < S 10 0) (he : e < i) (k1 : (decide (i < e + 5) && dg (S 11 i) 1 9) = true → K (some (.int 1)) h) (k0 : (decide (i < e + 5) && dg (S 11 i) 1 9) = false → K (some (.int 0)) h) : qCall (d + 4) 9 [.ref 1, .int (nI i), .int (nI e)] h K := by
  have h10 := hg.1
  refine call_wp (n := 30) (cut := []) _ (by decide) (Nat.lt_succ_self _) rfl rfl (Nat.le_of_ble_eq_true rfl) rfl ?_
  refine And.intro (fun z => ?_) (fun z => ?_)
  · have z : nI 5 ≤ nI i - nI e := z
    rw [pk_sub (by omega), nI_leI (by omega) (by omega)] at z
    exact ⟨Or.inl rfl, k0 (by rw [decide_eq_false (by omega)]; rfl)⟩
  · have z : ¬ nI 5 ≤ nI i - nI e := z
    rw [pk_sub (by omega), nI_leI (by omega) (by omega)] at z
    rw [decide_eq_true (show i < e + 5 by omega), Bool.true_and] at k1 k0
    refine c_isDigit (lo := 1) (hi := 9) hp hg (by decide) (by decide) hi (fun b => ?_) (fun b => ?_)
    · refine And.intro (fun c => absurd c (by decide)) (fun _ => ?_)
      exact ⟨Or.inr rfl, k1 b⟩
    · refine And.intro (fun _ => ?_) (fun c => absurd rfl c)
      exact ⟨Or.inl rfl, k0 b⟩
theorem c_fitsPeople {i : Nat} (hp : pgX h S) (hg : pgB S) (hi : i < S 10 0) (k1 : fitP (S 11) i = true → K (some (.int 1)) h) (k0 : fitP (S 11) i = false → K (some (.int 0)) h) : qCall (d + 6) 8 [.ref 1, .int (nI i)] h K := by
  have h10 := hg.1
  have hb := hg.2 i hi
  have em := im4 i (by omega)
  refine call_wp (n := 60) (cut := [25]) _ (by decide) (Nat.lt_succ_self _) rfl rfl (Nat.le_of_ble_eq_true rfl) rfl ?_
  refine And.intro (by decide) ?_
  refine And.intro (fun c0 => ?_) (fun c0 => ?_)
  · have c0 : nI i - nI i / nI 4 * nI 4 = nI 0 := c0
    rw [em, nI_eq (by omega) (by omega)] at c0
    rw [fitP_0 c0] at k1 k0
    refine c_kindAt hp hg hi ?_
    refine And.intro (fun z => ?_) (fun z => ?_)
    · have z : kdI (S 11 i) = -1 := z
      rw [kdI_m _ (by omega)] at z
      exact ⟨Or.inl rfl, k0 (by rw [z]; rfl)⟩
    · have z : ¬ kdI (S 11 i) = -1 := z
      rw [kdI_m _ (by omega)] at z
      exact ⟨Or.inr rfl, k1 (by simpa using z)⟩
  · have c0 : ¬ nI i - nI i / nI 4 * nI 4 = nI 0 := c0
    rw [em, nI_eq (by omega) (by omega)] at c0
    refine And.intro (fun c1 => ?_) (fun c1 => ?_)
    · have c1 : nI i - nI i / nI 4 * nI 4 = nI 1 := c1
      rw [em, nI_eq (by omega) (by omega)] at c1
      rw [fitP_1 c1] at k1 k0
      refine c_isDigit (lo := 1) (hi := 9) hp hg (by decide) (by decide) hi (fun b => ?_) (fun b => ?_)
      · exact ⟨Or.inr rfl, k1 b⟩
      · exact ⟨Or.inl rfl, k0 b⟩
    · have c1 : ¬ nI i - nI i / nI 4 * nI 4 = nI 1 := c1
      rw [em, nI_eq (by omega) (by omega)] at c1
      refine And.intro (fun c2 => ?_) (fun c2 => ?_)
      · have c2 : nI i - nI i / nI 4 * nI 4 = nI 2 := c2
        rw [em, nI_eq (by omega) (by omega)] at c2
        rw [fitP_2 c2] at k1 k0
        refine c_isDigit (lo := 0) (hi := 4) hp hg (by decide) (by decide) hi (fun b => ?_) (fun b => ?_)
        · exact ⟨Or.inr rfl, k1 b⟩
        · exact ⟨Or.inl rfl, k0 b⟩
      · have c2 : ¬ nI i - nI i / nI 4 * nI 4 = nI 2 := c2
        rw [em, nI_eq (by omega) (by omega)] at c2
        have c3 : i % 4 = 3 := by omega
        rw [fitP_3 c3] at k1 k0
        have l2 : ∀ K2 : qK, (S 11 i = 59 → 7 ≤ i → K2 (some (.int 1)) h) → (¬ (S 11 i = 59 ∧ 7 ≤ i) → K2 (some (.int 0)) h) → qAt (d + 5, 8, some .boolean, q0, K2) 33 [some (.ref 1), some (.int (nI i))] [] h := by
          intro K2 a b
          refine at_wp [] 30 (Nat.le_of_ble_eq_true rfl) rfl ?_
          refine c_atP hp hg hi ?_
          refine And.intro (fun z => ?_) (fun z => ?_)
          · have z : nI (S 11 i) = nI 59 := z
            rw [nI_eq (by omega) (by omega)] at z
            refine And.intro (fun y => ?_) (fun y => ?_)
            · have y : nI i < nI 7 := y
              rw [nI_ltI (by omega) (by omega)] at y
              exact ⟨Or.inl rfl, b (by omega)⟩
            · have y : ¬ nI i < nI 7 := y
              rw [nI_ltI (by omega) (by omega)] at y
              exact ⟨Or.inr rfl, a z (by omega)⟩
          · have z : ¬ nI (S 11 i) = nI 59 := z
            rw [nI_eq (by omega) (by omega)] at z
            exact ⟨Or.inl rfl, b (fun q => z q.1)⟩
        show qAt (d + 5, 8, some .boolean, q0, K) 25 [some (.ref 1), some (.int (nI i))] [] h
        refine at_wp [33] 30 (Nat.le_of_ble_eq_true rfl) rfl ?_
        refine c_atP hp hg hi ?_
        refine And.intro (fun z => ?_) (fun z => ?_)
        · have z : nI (S 11 i) = nI 44 := z
          rw [nI_eq (by omega) (by omega)] at z
          refine And.intro (fun y => ?_) (fun y => ?_)
          · have y : nI i < nI 15 := y
            rw [nI_ltI (by omega) (by omega)] at y
            exact ⟨Or.inr rfl, k1 (by rw [z, decide_eq_true y]; rfl)⟩
          · have y : ¬ nI i < nI 15 := y
            rw [nI_ltI (by omega) (by omega)] at y
            rw [z, decide_eq_false y] at k0
            exact l2 _ (fun q => by omega) (fun _ => k0 rfl)
        · have z : ¬ nI (S 11 i) = nI 44 := z
          rw [nI_eq (by omega) (by omega)] at z
          rw [show (S 11 i == 44) = false from beq_eq_false_iff_ne.mpr z, Bool.false_and, Bool.false_or] at k1 k0
          exact l2 _ (fun q y => k1 (by rw [q, decide_eq_true y]; rfl)) (fun q => k0 (by
            by_cases e : S 11 i = 59
            · rw [show decide (7 ≤ i) = false from decide_eq_false (fun y => q ⟨e, y⟩), Bool.and_false]
            · rw [show (S 11 i == 59) = false from beq_eq_false_iff_ne.mpr e, Bool.false_and]))
theorem l_ff19 {i : Nat} (hp : pgX h S) (hg : pgB S) (hi : i < S 10 0) (kf : fit (S 11) i = false → K (some (.int (nI i))) h) (kt : fit (S 11) i = true → ∀ u, qAt (d + 6, 6, some .int, q0, K) 4 [some (.ref 1), some (.int (oI (stE (S 11) (i + 1)))), some (.int (nI (i + 1))), u] [] h) : ∀ b, fit (S 11) i = b → ∀ u, qAt (d + 6, 6, some .int, q0, K) 19 [some (.ref 1), some (.int (oI (stE (S 11) i))), some (.int (nI i)), u] [.int (b2 b)] h := by
  intro b eb u
  have hb := hg.2 i hi
  have h10 := hg.1
  cases b with
  | false =>
    refine at_wp [] 12 (Nat.le_of_ble_eq_true rfl) rfl ?_
    refine And.intro (fun _ => ?_) (fun c => absurd rfl c)
    exact kf eb
  | true =>
    have kt := kt eb
    refine at_wp [4] 30 (Nat.le_of_ble_eq_true rfl) rfl ?_
    refine And.intro (fun c => absurd c (by decide)) (fun _ => ?_)
    refine c_atP hp hg hi ?_
    refine And.intro (fun z => ?_) (fun z => ?_)
    · have z : nI (S 11 i) = nI 59 := z
      rw [nI_eq (by omega) (by omega)] at z
      have n0 : stE (S 11) i = none := by
        cases q : stE (S 11) i with
        | none => rfl
        | some e =>
          rw [fit_s q, z, dg_59 (by decide), Bool.and_false] at eb
          cases eb
      rw [stE_hit n0 z, ← nI_1] at kt
      exact kt _
    · have z : ¬ nI (S 11 i) = nI 59 := z
      rw [nI_eq (by omega) (by omega)] at z
      have e1 : stE (S 11) (i + 1) = stE (S 11) i := by
        rw [stE]
        cases q : stE (S 11) i with
        | none => exact if_neg z
        | some e => rfl
      rw [e1, ← nI_1] at kt
      exact kt _
theorem l_ff (hp : pgX h S) (hg : pgB S) (hk : K (some (.int (nI (gfa (S 11) 0 (S 10 0))))) h) : ∀ m i, i + m = S 10 0 → (∀ j, j < i → fit (S 11) j = true) → ∀ u, qAt (d + 6, 6, some .int, q0, K) 4 [some (.ref 1), some (.int (oI (stE (S 11) i))), some (.int (nI i)), u] [] h := by
  have h10 := hg.1
  have e := hp.1
  intro m
  induction m with
  | zero =>
    intro i hi hall u
    have hi : i = S 10 0 := by omega
    subst hi
    refine at_wp [] 12 (Nat.le_of_ble_eq_true rfl) rfl ?_
    refine And.intro (fun _ => ?_) (fun c => absurd (by show h.1 1 1 ≤ nI (S 10 0); rw [e]; exact nI_le (Nat.le_refl _) (by omega)) c)
    rw [gfa_L hall] at hk
    exact kI hk e.symm
  | succ m ih =>
    intro i hi hall u
    have go := l_ff19 (d := d) (K := K) (h := h) (S := S) (i := i) hp hg (by omega) (fun z => by rw [gfa_k (by omega) hall z] at hk; exact hk) (fun z u => ih (i + 1) (by omega) (fun j hj => by
      rcases Nat.lt_or_ge j i with q | q
      · exact hall j q
      · rw [show j = i by omega]; exact z) u)
    cases st : stE (S 11) i with
    | none =>
      rw [st] at go
      refine at_wp [19] 30 (Nat.le_of_ble_eq_true rfl) rfl ?_
      refine And.intro (fun c => absurd c (by show ¬ h.1 1 1 ≤ nI i; rw [e]; exact nI_ge (by omega) (by omega))) (fun _ => ?_)
      refine And.intro (fun _ => ?_) (fun c => absurd rfl c)
      refine c_fitsPeople hp hg (by omega) (fun b => ?_) (fun b => ?_)
      · exact go true (by rw [fit_n st]; exact b) u
      · exact go false (by rw [fit_n st]; exact b) u
    | some x =>
      have hx := (stE_lt i x st).1
      rw [st] at go
      refine at_wp [19] 30 (Nat.le_of_ble_eq_true rfl) rfl ?_
      refine And.intro (fun c => absurd c (by show ¬ h.1 1 1 ≤ nI i; rw [e]; exact nI_ge (by omega) (by omega))) (fun _ => ?_)
      refine And.intro (fun c => absurd (show nI x = -1 from c) (nI_m1 x (by omega))) (fun _ => ?_)
      refine c_fitsAmounts (d := d + 2) (e := x) hp hg (by omega) hx (fun b => ?_) (fun b => ?_)
      · exact go true (by rw [fit_s st]; exact b) u
      · exact go false (by rw [fit_s st]; exact b) u
theorem c_firstFault (hp : pgX h S) (hg : pgB S) (hk : K (some (.int (nI (gfa (S 11) 0 (S 10 0))))) h) : qCall (d + 7) 6 [.ref 1] h K := by
  refine call_wp (n := 10) (cut := [4]) _ (by decide) (Nat.lt_succ_self _) rfl rfl (Nat.le_of_ble_eq_true rfl) rfl ?_
  exact l_ff hp hg hk (S 10 0) 0 (by omega) (fun j hj => by omega) none
theorem c_isCourt (hp : pgX h S) (hg : pgB S) (k1 : gwh (S 11) (S 10 0) = true → K (some (.int 1)) h) (k0 : gwh (S 11) (S 10 0) = false → K (some (.int 0)) h) : qCall (d + 8) 7 [.ref 1] h K := by
  have h10 := hg.1
  have e := hp.1
  have gl := gfa_le (c := S 11) (S 10 0) 0
  refine call_wp (n := 40) (cut := []) _ (by decide) (Nat.lt_succ_self _) rfl rfl (Nat.le_of_ble_eq_true rfl) rfl ?_
  show qCall _ 3 [.ref 1, .int (h.1 1 1 - nI 5)] h _
  rw [e]
  by_cases h5 : 5 ≤ S 10 0
  · rw [pk_sub h5]
    have hb := hg.2 (S 10 0 - 5) (by omega)
    refine c_atP hp hg (by omega) ?_
    refine And.intro (fun z => ?_) (fun z => ?_)
    · have z : nI (S 11 (S 10 0 - 5)) = nI 59 := z
      rw [nI_eq (by omega) (by omega)] at z
      refine c_firstFault hp hg ?_
      refine And.intro (fun y => ?_) (fun y => ?_)
      · have y : nI (gfa (S 11) 0 (S 10 0)) = h.1 1 1 := y
        rw [e, nI_eq (by omega) (by omega)] at y
        exact ⟨Or.inr rfl, k1 (by unfold gwh; rw [decide_eq_true y, decide_eq_true h5, z]; rfl)⟩
      · have y : ¬ nI (gfa (S 11) 0 (S 10 0)) = h.1 1 1 := y
        rw [e, nI_eq (by omega) (by omega)] at y
        exact ⟨Or.inl rfl, k0 (gwh_f y)⟩
    · have z : ¬ nI (S 11 (S 10 0 - 5)) = nI 59 := z
      rw [nI_eq (by omega) (by omega)] at z
      exact ⟨Or.inl rfl, k0 (by unfold gwh; rw [show (S 11 (S 10 0 - 5) == 59) = false from beq_eq_false_iff_ne.mpr z, Bool.and_false])⟩
  · refine c_atNeg (pk_sneg (by omega) (by omega)) ?_
    refine And.intro (fun c => absurd c (by decide)) (fun _ => ?_)
    exact ⟨Or.inl rfl, k0 (by unfold gwh; rw [decide_eq_false h5]; simp)⟩
theorem x_fault (hX : RX h S) (hG : RG S) (hk : K (some (.int (aFault S))) h) : qCall (d + 8) 47 [.ref 0] h K := by
  refine call_wp (n := 12) (cut := []) _ (by decide) (Nat.lt_succ_self _) rfl rfl (Nat.le_of_ble_eq_true rfl) rfl ?_
  exact c_firstFault hX.pg hG.pg hk
end QPG
end
section
/-! ## the class reads a court -/
theorem fgs {a : Int32} {p q v : Nat} (hp : p < 4) (hq : q < 4) (hv : v < 16) : fget (fput a (nI p) (nI v)) (nI q) = if q = p then nI v else fget a (nI q) := by
  rw [fgp a (nI v) hp hq, n15 v hv]
theorem half : ∀ n, n < 10 → (nI n + nI 1) / nI 2 = nI ((n + 1) / 2) := by decide +kernel
theorem fk_ok : ∀ f, f < 5 → Int32.ofInt 1 <<< (nI f &&& 31) &&& Int32.ofInt 15 = nI (fkn f) := by decide +kernel
theorem kdI_n {c : Nat} (h : kdN c < 5) : kdI c = nI (kdN c) := by
  unfold kdI
  exact if_neg (by omega)
def rpH (h : qH) (p k n f : Nat) : qH := qI (qI (qI (qI h 3 1 (fput (h.1 3 1) (nI p) (nI k))) 3 2 (fput (h.1 3 2) (nI p) (nI n))) 3 3 (fput (h.1 3 3) (nI p) (nI f))) 3 4 (fput (h.1 3 4) (nI p) (nI (gen k n)))
theorem gen_16 {k n : Nat} (h : n < 10) : gen k n < 16 := by
  unfold gen
  split <;> omega
def rdP (S : gS) (g : qH) (p : Nat) : Prop := ∀ q, q < p → fget (g.1 3 1) (nI q) = nI (gct S 1 q) ∧ fget (g.1 3 2) (nI q) = nI (gct S 2 q) ∧ fget (g.1 3 3) (nI q) = nI (S 11 (4 * q + 2) - 48) ∧ fget (g.1 3 4) (nI q) = nI (gen (gct S 1 q) (gct S 2 q))
def rdA (S : gS) (h g : qH) (P p k n : Nat) : Prop := Fr [3, 4] h g ∧ g.1 3 0 = nI P ∧ rdP S g p ∧ (∀ j, j < k → fget (g.1 3 5) (nI j) = nI (gct S 3 j)) ∧ ∀ s, s < n → g.1 4 s = nI (gtog (gct S) s)
theorem pgX.fr {h g : qH} {S : gS} (hp : pgX h S) (f : Fr [3, 4] h g) : pgX g S := by
  unfold pgX
  rw [f.1 1 (by decide), f.1 2 (by decide)]
  exact hp
section QRC
variable {d : Nat} {h : qH} {K : qK} {S : gS}
theorem c_digN {i : Nat} (hp : pgX h S) (hg : pgB S) (hi : i < S 10 0) (h48 : 48 ≤ S 11 i) (hk : K (some (.int (nI (S 11 i - 48)))) h) : qCall (d + 2) 4 [.ref 1, .int (nI i)] h K := by
  refine c_digitAt hp hg hi ?_
  show K (some (.int (nI (S 11 i) - nI 48))) h
  rw [pk_sub h48]
  exact hk
theorem c_enoughOf {k n : Nat} (hk5 : k < 5) (hn : n < 10) (hk : K (some (.int (nI (gen k n)))) h) : qCall (d + 1) 13 [.int (nI k), .int (nI n)] h K := by
  refine call_wp (n := 30) (cut := []) _ (by decide) (Nat.lt_succ_self _) rfl rfl (Nat.le_of_ble_eq_true rfl) rfl ?_
  refine And.intro (fun c => ?_) (fun c => ?_)
  · have c : nI k = nI 2 := c
    rw [nI_eq (by omega) (by omega)] at c
    subst c
    refine And.intro (by decide) ?_
    show K (some (.int ((nI n + nI 1) / nI 2))) h
    rw [half n hn]
    exact hk
  · have c : ¬ nI k = nI 2 := c
    rw [nI_eq (by omega) (by omega)] at c
    refine And.intro (fun c2 => ?_) (fun c2 => ?_)
    · have c2 : nI k = nI 4 := c2
      rw [nI_eq (by omega) (by omega)] at c2
      subst c2
      show K (some (.int (nI n + nI 2))) h
      rw [nI_add]
      exact hk
    · have c2 : ¬ nI k = nI 4 := c2
      rw [nI_eq (by omega) (by omega)] at c2
      have e : gen k n = n := by
        unfold gen
        split
        · exact absurd rfl c
        · exact absurd rfl c2
        · rfl
      rw [e] at hk
      exact hk
theorem c_readPerson {p k n f : Nat} (hk5 : k < 5) (hn : n < 10) (hk : K none (rpH h p k n f)) : qCall (d + 2) 12 [.ref 3, .int (nI p), .int (nI k), .int (nI n), .int (nI f)] h K := by
  refine call_wp (n := 50) (cut := []) _ (by decide) (Nat.lt_succ_self _) rfl rfl (Nat.le_of_ble_eq_true rfl) rfl ?_
  refine c_put ?_
  refine c_put ?_
  refine c_put ?_
  refine c_enoughOf hk5 hn ?_
  refine c_put ?_
  exact hk
theorem rdA.person {P p : Nat} {g : qH} (hg : pgB S) (f : rdA S h g P p 0 0) (hp : p < 4) (k5 : kdN (S 11 (4 * p)) < 5) (d1 : dg (S 11 (4 * p + 1)) 1 9 = true) (d2 : dg (S 11 (4 * p + 2)) 0 4 = true) : rdA S h (rpH g p (kdN (S 11 (4 * p))) (S 11 (4 * p + 1) - 48) (S 11 (4 * p + 2) - 48)) P (p + 1) 0 0 := by
  obtain ⟨f1, f2, f3, f4, f5⟩ := f
  have d1 := dg_i d1
  have d2 := dg_i d2
  refine ⟨(((f1.I (by decide)).I (by decide)).I (by decide)).I (by decide), f2, fun q hq => ?_, fun j hj => by omega, fun s hs => by omega⟩
  have v1 : (rpH g p (kdN (S 11 (4 * p))) (S 11 (4 * p + 1) - 48) (S 11 (4 * p + 2) - 48)).1 3 1 = fput (g.1 3 1) (nI p) (nI (kdN (S 11 (4 * p)))) := rfl
  have v2 : (rpH g p (kdN (S 11 (4 * p))) (S 11 (4 * p + 1) - 48) (S 11 (4 * p + 2) - 48)).1 3 2 = fput (g.1 3 2) (nI p) (nI (S 11 (4 * p + 1) - 48)) := rfl
  have v3 : (rpH g p (kdN (S 11 (4 * p))) (S 11 (4 * p + 1) - 48) (S 11 (4 * p + 2) - 48)).1 3 3 = fput (g.1 3 3) (nI p) (nI (S 11 (4 * p + 2) - 48)) := rfl
  have v4 : (rpH g p (kdN (S 11 (4 * p))) (S 11 (4 * p + 1) - 48) (S 11 (4 * p + 2) - 48)).1 3 4 = fput (g.1 3 4) (nI p) (nI (gen (kdN (S 11 (4 * p))) (S 11 (4 * p + 1) - 48))) := rfl
  have g4 := gen_16 (k := kdN (S 11 (4 * p))) (show S 11 (4 * p + 1) - 48 < 10 by omega)
  rw [v1, v2, v3, v4, fgs hp (by omega) (by omega), fgs hp (by omega) (by omega), fgs hp (by omega) (by omega), fgs hp (by omega) g4]
  by_cases e : q = p
  · subst e
    rw [if_pos rfl, if_pos rfl, if_pos rfl, if_pos rfl]
    exact ⟨rfl, rfl, rfl, rfl⟩
  · rw [if_neg e, if_neg e, if_neg e, if_neg e]
    exact f3 q (by omega)
theorem l_rsum {s : Nat} {T : gS} (hT : ∀ k, k < 4 → fget (h.1 3 5) (nI k) = nI (T 3 k)) (hs : s < 16) (hk : K (some (.int (nI (gtog T s)))) h) : ∀ m k, k + m = 4 → qAt (d + 2, 14, some .int, q0, K) 4 [some (.ref 3), some (.int (nI s)), some (.int (nI (gtogN T s k))), some (.int (nI k))] [] h := by
  intro m
  induction m with
  | zero =>
    intro n hn
    have hn : n = 4 := by omega
    subst hn
    refine at_wp [] 12 (Nat.le_of_ble_eq_true rfl) rfl ?_
    refine And.intro (fun _ => ?_) (fun c => absurd (by decide) c)
    rw [← gtogN_4] at hk
    exact hk
  | succ m ih =>
    intro n hn
    have ihn := ih (n + 1) (by omega)
    rw [gtogN, ← nI_1] at ihn
    refine at_wp [4] 40 (Nat.le_of_ble_eq_true rfl) rfl ?_
    refine And.intro (fun c => absurd c (nI_ge (a := n) (b := 4) (by omega) (by decide))) (fun _ => ?_)
    refine And.intro (fun z => ?_) (fun z => ?_)
    · have z := (bit_and s hs n (by omega)).mp z
      rw [z] at ihn
      exact ihn
    · have z : s.testBit n = true := by
        cases b : s.testBit n with
        | true => rfl
        | false => exact absurd ((bit_and s hs n (by omega)).mpr b) z
      rw [if_pos z, ← nI_add] at ihn
      refine call_wp (n := 20) (cut := []) _ (by decide) (Nat.lt_succ_self _) rfl rfl (Nat.le_of_ble_eq_true rfl) rfl ?_
      refine c_get ?_
      rw [← hT n (by omega)] at ihn
      exact ihn
theorem c_sumOf {s : Nat} {T : gS} (hT : ∀ k, k < 4 → fget (h.1 3 5) (nI k) = nI (T 3 k)) (hs : s < 16) (hk : K (some (.int (nI (gtog T s)))) h) : qCall (d + 3) 14 [.ref 3, .int (nI s)] h K := by
  refine call_wp (n := 10) (cut := [4]) _ (by decide) (Nat.lt_succ_self _) rfl rfl (Nat.le_of_ble_eq_true rfl) rfl ?_
  exact l_rsum hT hs hk 4 0 rfl
theorem l_rdC {P : Nat} (hk : ∀ g, rdA S h g P P 4 16 → K none g) : ∀ m s, s + m = 16 → ∀ g, rdA S h g P P 4 s → qAt (d + 5, 11, none, q0, K) 63 [some (.ref 3), some (.ref 1), some (.int (nI s))] [] g := by
  intro m
  induction m with
  | zero =>
    intro s hs g f
    have hs : s = 16 := by omega
    subst hs
    refine at_wp [] 12 (Nat.le_of_ble_eq_true rfl) rfl ?_
    refine And.intro (fun _ => ?_) (fun c => absurd (by decide) c)
    exact hk g f
  | succ m ih =>
    intro s hs g f
    obtain ⟨f1, f2, f3, f4, f5⟩ := f
    have ec : (nI s).toNatClampNeg = s := nI_clamp (by omega)
    refine at_wp [63] 40 (Nat.le_of_ble_eq_true rfl) rfl ?_
    refine And.intro (fun c => absurd c (nI_ge (a := s) (b := 16) (by omega) (by decide))) (fun _ => ?_)
    refine c_sumOf (d := d + 2) (T := gct S) (fun k hk => f4 k hk) (by omega) ?_
    refine And.intro (vp_in_nI (by omega) (by decide)) ?_
    have := ih (s + 1) (by omega) (qI g 4 s (nI (gtog (gct S) s))) ⟨f1.I (by decide), f2, f3, f4, fun j hj => by
      rw [qI_get]
      by_cases e : j = s
      · rw [if_pos ⟨rfl, e⟩, e]
      · rw [if_neg (fun z => e z.2)]
        exact f5 j (by omega)⟩
    rw [← nI_1] at this
    show qAt _ 63 [some (.ref 3), some (.ref 1), some (.int (nI s + 1))] [] (qI g 4 (nI s).toNatClampNeg (nI (gtog (gct S) s)))
    rw [ec]
    exact this
theorem l_rdB {P : Nat} (hp : pgX h S) (hg : pgB S) (eP : S 10 0 = 4 * P + 4) (hd : ∀ k, k < 4 → dg (S 11 (4 * P + k)) 1 9 = true) (hk : ∀ g, rdA S h g P P 4 16 → K none g) : ∀ m k, k + m = 4 → ∀ g, rdA S h g P P k 0 → qAt (d + 5, 11, none, q0, K) 42 [some (.ref 3), some (.ref 1), some (.int (nI k))] [] g := by
  have h10 := hg.1
  intro m
  induction m with
  | zero =>
    intro k hs g f
    have hs : k = 4 := by omega
    subst hs
    refine at_wp [63] 12 (Nat.le_of_ble_eq_true rfl) rfl ?_
    refine And.intro (fun _ => ?_) (fun c => absurd (by decide) c)
    exact l_rdC hk 16 0 rfl g f
  | succ m ih =>
    intro k hs g f
    obtain ⟨f1, f2, f3, f4, f5⟩ := f
    have dk := dg_i (hd k (by omega))
    refine at_wp [42] 40 (Nat.le_of_ble_eq_true rfl) rfl ?_
    refine And.intro (fun c => absurd c (nI_ge (a := k) (b := 4) (by omega) (by decide))) (fun _ => ?_)
    show qCall _ 4 [.ref 1, .int (nI 4 * g.1 3 0 + nI k)] g _
    rw [f2, pk_mul, nI_add]
    refine c_digN (hp.fr f1) hg (by omega) (by omega) ?_
    refine c_put ?_
    have := ih (k + 1) (by omega) (qI g 3 5 (fput (g.1 3 5) (nI k) (nI (S 11 (4 * P + k) - 48)))) ⟨f1.I (by decide), f2, f3, fun j hj => by
      show fget (fput (g.1 3 5) (nI k) (nI (S 11 (4 * P + k) - 48))) (nI j) = nI (S 11 (4 * (S 10 0 / 4 - 1) + j) - 48)
      rw [fgs (by omega) (by omega) (by omega), show S 10 0 / 4 - 1 = P by omega]
      by_cases e : j = k
      · rw [if_pos e, e]
      · rw [if_neg e]
        have := f4 j (by omega)
        rw [this]
        show nI (S 11 (4 * (S 10 0 / 4 - 1) + j) - 48) = _
        rw [show S 10 0 / 4 - 1 = P by omega], fun s hs => by omega⟩
    rw [← nI_1] at this
    exact this
theorem l_rdA {P : Nat} (hp : pgX h S) (hg : pgB S) (eP : S 10 0 = 4 * P + 4) (hq : ∀ p, p < P → kdN (S 11 (4 * p)) < 5 ∧ dg (S 11 (4 * p + 1)) 1 9 = true ∧ dg (S 11 (4 * p + 2)) 0 4 = true) (hd : ∀ k, k < 4 → dg (S 11 (4 * P + k)) 1 9 = true) (hk : ∀ g, rdA S h g P P 4 16 → K none g) : ∀ m p, p + m = P → ∀ g, rdA S h g P p 0 0 → qAt (d + 5, 11, none, q0, K) 12 [some (.ref 3), some (.ref 1), some (.int (nI p))] [] g := by
  have h10 := hg.1
  intro m
  induction m with
  | zero =>
    intro p hs g f
    have hs : p = P := by omega
    subst hs
    have f2 := f.2.1
    refine at_wp [42] 12 (Nat.le_of_ble_eq_true rfl) rfl ?_
    refine And.intro (fun _ => ?_) (fun c => absurd (by show g.1 3 0 ≤ nI p; rw [f2]; exact nI_le (Nat.le_refl _) (by omega)) c)
    exact l_rdB hp hg eP hd hk 4 0 rfl g f
  | succ m ih =>
    intro p hs g f
    have f1 := f.1
    have f2 := f.2.1
    obtain ⟨q1, q2, q3⟩ := hq p (by omega)
    have d1 := dg_i q2
    have d2 := dg_i q3
    have hpg := hp.fr f1
    refine at_wp [12] 60 (Nat.le_of_ble_eq_true rfl) rfl ?_
    refine And.intro (fun c => absurd c (by show ¬ g.1 3 0 ≤ nI p; rw [f2]; exact nI_ge (by omega) (by omega))) (fun _ => ?_)
    show qCall _ 5 [.ref 1, .int (nI 4 * nI p)] g _
    rw [pk_mul]
    refine c_kindAt hpg hg (by omega) ?_
    rw [kdI_n q1]
    show qCall _ 4 [.ref 1, .int (nI 4 * nI p + nI 1)] g _
    rw [pk_mul, nI_add]
    refine c_digN hpg hg (by omega) (by omega) ?_
    show qCall _ 4 [.ref 1, .int (nI 4 * nI p + nI 2)] g _
    rw [pk_mul, nI_add]
    refine c_digN hpg hg (by omega) (by omega) ?_
    refine c_readPerson q1 (by omega) ?_
    have := ih (p + 1) (by omega) _ (rdA.person hg f (by omega) q1 q2 q3)
    rw [← nI_1] at this
    exact this
theorem c_read (hp : pgX h S) (hg : pgB S) (hw : gwh (S 11) (S 10 0) = true) (hk : ∀ g, Fr [3, 4] h g → RC g (gct S) → (∀ q, q < gct S 0 0 → fget (g.1 3 3) (nI q) = nI (S 11 (4 * q + 2) - 48)) → K none g) : qCall (d + 6) 11 [.ref 3, .ref 1] h K := by
  obtain ⟨P, p2, p4, eL, hq, hd⟩ := gwh_i hg.1 hw
  have h10 := hg.1
  have eP : gct S 0 0 = P := by
    show S 10 0 / 4 - 1 = P
    omega
  refine call_wp (n := 20) (cut := [12]) _ (by decide) (Nat.lt_succ_self _) rfl rfl (Nat.le_of_ble_eq_true rfl) rfl ?_
  refine And.intro (by decide) ?_
  show qAt _ 12 [some (.ref 3), some (.ref 1), some (.int (nI 0))] [] (qI h 3 0 ((h.1 1 1 - nI 5 + 1) / nI 4))
  rw [hp.1, pk_sub (by omega), nI_1, pk_div (by omega) (by decide) (by decide), show (S 10 0 - 5 + 1) / 4 = P by omega]
  have hp2 : pgX (qI h 3 0 (nI P)) S := hp.fr (Fr.rf.I (by decide))
  refine l_rdA (h := qI h 3 0 (nI P)) hp2 hg eL hq hd (fun g f => ?_) P 0 (by omega) _ ⟨Fr.rf, rfl, fun q hq => by omega, fun q hq => by omega, fun q hq => by omega⟩
  obtain ⟨f1, f2, f3, f4, f5⟩ := f
  refine hk g ((Fr.rf.I (by decide)).tr f1) ⟨by rw [eP]; exact f2, fun p hp => ?_, f4, f5⟩ (fun q hq => (f3 q (by omega)).2.2.1)
  have := f3 p (by omega)
  exact ⟨this.1, this.2.1, this.2.2.2⟩
end QRC
end
section
/-! ## the class opens a scene; its court -/
def op0 (g : qH) : Prop := g.1 5 1 = 0 ∧ g.1 5 2 = 0 ∧ g.1 5 3 = 0 ∧ g.1 5 4 = 0 ∧ g.1 5 7 = 0
def opI (h g : qH) (F : Nat → Nat) (n p : Nat) : Prop := Fr [5, 6] h g ∧ op0 g ∧ (∀ q, q < n → g.1 6 q = 0) ∧ ∀ q, q < p → fget (g.1 5 0) (nI q) = nI (fkn (F q))
section QOC
variable {d : Nat} {h : qH} {K : qK} {S : gS}
theorem c_firstKnown {q f : Nat} (hf : f < 5) (e : fget (h.1 3 3) (nI q) = nI f) (hk : K (some (.int (nI (fkn f)))) h) : qCall (d + 2) 21 [.ref 3, .int (nI q)] h K := by
  refine call_wp (n := 20) (cut := []) _ (by decide) (Nat.lt_succ_self _) rfl rfl (Nat.le_of_ble_eq_true rfl) rfl ?_
  refine c_get ?_
  refine kI hk ?_
  show _ = Int32.ofInt 1 <<< (fget (h.1 3 3) (nI q) &&& 31) &&& Int32.ofInt 15
  rw [e, fk_ok f hf]
theorem l_opB {P : Nat} {F : Nat → Nat} (hP : P ≤ 4) (h0 : h.1 3 0 = nI P) (hF : ∀ q, q < P → F q < 5 ∧ fget (h.1 3 3) (nI q) = nI (F q)) (hk : ∀ g, opI h g F 4 P → K none g) : ∀ m p, p + m = P → ∀ g, opI h g F 4 p → qAt (d + 2, 26, none, q0, K) 34 [some (.ref 5), some (.ref 3), some (.int (nI p))] [] g := by
  intro m
  induction m with
  | zero =>
    intro p hp g f
    have hp : p = P := by omega
    subst hp
    have e0 : g.1 3 0 = nI p := by rw [f.1.1 3 (by decide)]; exact h0
    refine at_wp [] 12 (Nat.le_of_ble_eq_true rfl) rfl ?_
    refine And.intro (fun _ => ?_) (fun c => absurd (by show g.1 3 0 ≤ nI p; rw [e0]; exact nI_le (Nat.le_refl _) (by omega)) c)
    exact hk g f
  | succ m ih =>
    intro p hp g f
    have e3 : g.1 3 = h.1 3 := f.1.1 3 (by decide)
    have e0 : g.1 3 0 = nI P := by rw [e3]; exact h0
    obtain ⟨f1, f2, f3, f4⟩ := f
    have hf := hF p (by omega)
    refine at_wp [34] 40 (Nat.le_of_ble_eq_true rfl) rfl ?_
    refine And.intro (fun c => absurd c (by show ¬ g.1 3 0 ≤ nI p; rw [e0]; exact nI_ge (by omega) (by omega))) (fun _ => ?_)
    refine c_firstKnown hf.1 (by rw [e3]; exact hf.2) ?_
    refine c_put ?_
    have := ih (p + 1) (by omega) (qI g 5 0 (fput (g.1 5 0) (nI p) (nI (fkn (F p))))) ⟨f1.I (by decide), f2, f3, fun q hq => by
      show fget (fput (g.1 5 0) (nI p) (nI (fkn (F p)))) (nI q) = _
      rw [fgs (by omega) (by omega) (fkn_lt _ hf.1)]
      by_cases e : q = p
      · rw [if_pos e, e]
      · rw [if_neg e]
        exact f4 q (by omega)⟩
    rw [← nI_1 p] at this
    exact this
theorem l_opA {P : Nat} {F : Nat → Nat} (hP : P ≤ 4) (h0 : h.1 3 0 = nI P) (hF : ∀ q, q < P → F q < 5 ∧ fget (h.1 3 3) (nI q) = nI (F q)) (hk : ∀ g, opI h g F 4 P → K none g) : ∀ m n, n + m = 4 → ∀ g, opI h g F n 0 → qAt (d + 2, 26, none, q0, K) 20 [some (.ref 5), some (.ref 3), some (.int (nI n))] [] g := by
  intro m
  induction m with
  | zero =>
    intro n hn g f
    have hn : n = 4 := by omega
    subst hn
    refine at_wp [34] 12 (Nat.le_of_ble_eq_true rfl) rfl ?_
    refine And.intro (fun _ => ?_) (fun c => absurd (by decide) c)
    exact l_opB hP h0 hF hk P 0 (by omega) g f
  | succ m ih =>
    intro n hn g f
    obtain ⟨f1, f2, f3, f4⟩ := f
    have ec : (nI n).toNatClampNeg = n := nI_clamp (by omega)
    refine at_wp [20] 30 (Nat.le_of_ble_eq_true rfl) rfl ?_
    refine And.intro (fun c => absurd c (nI_ge (a := n) (b := 4) (by omega) (by decide))) (fun _ => ?_)
    refine And.intro (vp_in_nI (by omega) (by decide)) ?_
    have := ih (n + 1) (by omega) (qI g 6 n 0) ⟨f1.I (by decide), f2, fun q hq => by
      rw [qI_get]
      by_cases e : q = n
      · rw [if_pos ⟨rfl, e⟩]
      · rw [if_neg (fun z => e z.2)]
        exact f3 q (by omega), fun q hq => by omega⟩
    rw [← nI_1 n] at this
    show qAt _ 20 [some (.ref 5), some (.ref 3), some (.int (nI n + 1))] [] (qI g 6 (nI n).toNatClampNeg 0)
    rw [ec]
    exact this
theorem c_open {P : Nat} {F : Nat → Nat} (hP : P ≤ 4) (h0 : h.1 3 0 = nI P) (hF : ∀ q, q < P → F q < 5 ∧ fget (h.1 3 3) (nI q) = nI (F q)) (hk : ∀ g, opI h g F 4 P → K none g) : qCall (d + 3) 26 [.ref 5, .ref 3] h K := by
  refine call_wp (n := 40) (cut := [20]) _ (by decide) (Nat.lt_succ_self _) rfl rfl (Nat.le_of_ble_eq_true rfl) rfl ?_
  refine l_opA hP h0 hF hk 4 0 rfl _ ⟨?_, ?_, fun q hq => by omega, fun q hq => by omega⟩
  · exact (((((Fr.rf.I (by decide)).I (by decide)).I (by decide)).I (by decide)).I (by decide)).I (by decide)
  · exact ⟨rfl, rfl, rfl, rfl, rfl⟩
theorem gct_hi {a : Nat} (h : 14 ≤ a) : gct S a = S a := by
  funext y
  unfold gct
  rw [if_neg (by omega), if_neg (by omega), if_neg (by omega), if_neg (by omega), if_neg (by omega), if_neg (by omega), if_neg (by omega), if_neg (by omega), if_neg (by omega), if_neg (by omega)]
theorem gct_G (hG : RG S) (hw : gwh (S 11) (S 10 0) = true) : RG (gct S) := by
  refine ⟨gct_B hG.pg.1 hw, ⟨by show (0 : Nat) ≤ 6; decide, fun i hi => absurd hi (Nat.not_lt_zero i)⟩, fun z => absurd (show (0 : Nat) = 1 from z) (by decide), by show (0 : Nat) < 2; decide, hG.2.2.2.2.1, by show (0 : Nat) ≤ 22; decide, fun i hi => absurd hi (Nat.not_lt_zero i)⟩
theorem x_court (hX : RX h S) (hG : RG S) (hk : ∀ h', Fr lX h h' → RX h' (uCourt S) → K (some (.int (aCourt S))) h') : qCall (d + 9) 48 [.ref 0] h K := by
  unfold uCourt aCourt at hk
  refine call_wp (n := 90) (cut := []) _ (by decide) (Nat.lt_succ_self _) rfl rfl (Nat.le_of_ble_eq_true rfl) rfl ?_
  refine c_isCourt hX.pg hG.pg (fun hw => ?_) (fun hw => ?_)
  · simp only [if_pos hw] at hk
    have hB' := gct_B hG.pg.1 hw
    refine And.intro (fun c => absurd c (by decide)) (fun _ => ?_)
    refine c_read (d := d + 2) hX.pg hG.pg hw (fun g f1 hC hF => ?_)
    obtain ⟨P, p2, p4, eL, hq, hd⟩ := gwh_i hG.pg.1 hw
    have eP : gct S 0 0 = P := by
      show S 10 0 / 4 - 1 = P
      omega
    refine c_open (P := P) (F := fun q => S 11 (4 * q + 2) - 48) p4 (by rw [hC.1, eP]) (fun q hqq => ⟨by have := dg_i (hq q hqq).2.2; show S 11 (4 * q + 2) - 48 < 5; omega, hF q (by omega)⟩) (fun k f => ?_)
    obtain ⟨f2, ⟨o1, o2, o3, o4, o7⟩, f6, f0⟩ := f
    refine And.intro (Or.inl rfl) ?_
    have k0 : k.1 0 = h.1 0 := (f2.1 0 (by decide)).trans (f1.1 0 (by decide))
    have hCk : RC k (gct S) := hC.fr f2 (by decide) (by decide)
    have e7 : k.1 0 7 = nI (S 12 1) := by rw [k0]; exact hX.2.2.2.2.1
    show K (some (.int (k.1 3 0))) (qI (qI (qI k 0 6 0) 0 7 (k.1 0 7 + 1)) 1 1 0)
    rw [hCk.1, e7, nI_1]
    have hFr : Fr [0, 1] k (qI (qI (qI k 0 6 0) 0 7 (nI (S 12 1 + 1))) 1 1 0) := ((Fr.rf.I (by decide)).I (by decide)).I (by decide)
    refine hk _ (((f1.mono (by decide)).tr (f2.mono (by decide))).tr (hFr.mono (by decide))) ?_
    refine ⟨hCk.fr hFr (by decide) (by decide), ⟨fun p hp => ?_, ?_, ?_, ?_, ?_, ?_, fun p hp => ?_, fun i hi => absurd hi (Nat.not_lt_zero i)⟩, fun z => absurd (show (0 : Nat) = 1 from z) (by decide), rfl, rfl, ?_, rfl, fun i hi => absurd hi (Nat.not_lt_zero i)⟩
    · rw [hFr.1 5 (by decide)]
      exact f0 p (by omega)
    · rw [hFr.1 5 (by decide)]
      exact o1
    · rw [hFr.1 5 (by decide)]
      exact o2
    · rw [hFr.1 5 (by decide)]
      exact o3
    · rw [hFr.1 5 (by decide)]
      exact o4
    · rw [hFr.1 5 (by decide)]
      exact o7
    · have p4' := hB'.1
      rw [hFr.1 6 (by decide)]
      exact f6 p (by omega)
    · show k.1 0 8 = nI (S 12 0)
      rw [k0]
      exact hX.2.2.2.2.2.1
  · simp only [hw] at hk
    refine And.intro (fun _ => ?_) (fun c => absurd rfl c)
    exact hk h Fr.rf hX
end QOC
end
section
/-! ## the reference's page -/
def pgM (h : qH) (S : gS) : Prop := h.1 15 16 = nI (S 10 0) ∧ ∀ i, i < S 10 0 → h.1 24 i = nI (S 11 i)
theorem RM.pg {h : qH} {S : gS} (hM : RM h S) : pgM h S := ⟨hM.2.2.1, hM.2.2.2.1⟩
theorem dge : ∀ x, x < 127 → ∀ n, n < 10 → (nI x - 48 = nI n ↔ x = 48 + n) := by decide +kernel
theorem fit_ext {c : Nat → Nat} {k : Nat} (h : ∀ j, j < k → fit c j = true) (hk : fit c k = true) : ∀ j, j < k + 1 → fit c j = true := by
  intro j hj
  rcases Nat.lt_or_ge j k with q | q
  · exact h j q
  · rw [show j = k by omega]
    exact hk
theorem stop_n {c : Nat → Nat} {k L : Nat} (h : ∀ j, j < k → fit c j = true) (hs : stE c k = none) (hk : k ≤ L) (hf : k < L → fit c k = false) : gfa c 0 L = k ∧ gwh c L = false := by
  rcases Nat.lt_or_ge k L with q | q
  · have := gfa_k q h (hf q)
    exact ⟨this, gwh_f (by omega)⟩
  · have e : k = L := by omega
    subst e
    exact ⟨gfa_L h, gwh_n hs⟩
theorem stop_s {c : Nat → Nat} {k L e : Nat} (h : ∀ j, j < k → fit c j = true) (hs : stE c k = some e) (hk : k ≤ L) (hf : k < L → fit c k = false) (hn : k ≠ e + 5) : gfa c 0 L = k ∧ gwh c L = false := by
  rcases Nat.lt_or_ge k L with q | q
  · have := gfa_k q h (hf q)
    exact ⟨this, gwh_f (by omega)⟩
  · have e1 : k = L := by omega
    subst e1
    exact ⟨gfa_L h, gwh_s hs hn⟩
section QMPG
variable {d : Nat} {h : qH} {K : qK} {S : gS}
theorem m_kindBy {c : Nat} (hc : c < 127) (hk : K (some (.int (kdI c))) h) : qCall (d + 1) 78 [.int (nI c)] h K := by
  refine call_wp (n := 20) (cut := []) _ (by decide) (Nat.lt_succ_self _) rfl rfl (Nat.le_of_ble_eq_true rfl) rfl ?_
  refine And.intro (fun z => ?_) (fun n99 => ?_)
  · have z : nI c = nI 99 := z
    rw [nI_eq (by omega) (by omega)] at z
    subst z
    exact kI hk (by decide)
  refine And.intro (fun z => ?_) (fun n100 => ?_)
  · have z : nI c = nI 100 := z
    rw [nI_eq (by omega) (by omega)] at z
    subst z
    exact kI hk (by decide)
  refine And.intro (fun z => ?_) (fun n101 => ?_)
  · have z : nI c = nI 101 := z
    rw [nI_eq (by omega) (by omega)] at z
    subst z
    exact kI hk (by decide)
  refine And.intro (fun z => ?_) (fun n102 => ?_)
  · have z : nI c = nI 102 := z
    rw [nI_eq (by omega) (by omega)] at z
    subst z
    exact kI hk (by decide)
  refine And.intro (fun z => ?_) (fun n103 => ?_)
  · have z : nI c = nI 103 := z
    rw [nI_eq (by omega) (by omega)] at z
    subst z
    exact kI hk (by decide)
  refine And.intro (fun z => ?_) (fun n104 => ?_)
  · have z : nI c = nI 104 := z
    rw [nI_eq (by omega) (by omega)] at z
    subst z
    exact kI hk (by decide)
  refine And.intro (fun z => ?_) (fun n105 => ?_)
  · have z : nI c = nI 105 := z
    rw [nI_eq (by omega) (by omega)] at z
    subst z
    exact kI hk (by decide)
  refine And.intro (fun z => ?_) (fun n106 => ?_)
  · have z : nI c = nI 106 := z
    rw [nI_eq (by omega) (by omega)] at z
    subst z
    exact kI hk (by decide)
  refine And.intro (fun z => ?_) (fun n107 => ?_)
  · have z : nI c = nI 107 := z
    rw [nI_eq (by omega) (by omega)] at z
    subst z
    exact kI hk (by decide)
  refine And.intro (fun z => ?_) (fun n108 => ?_)
  · have z : nI c = nI 108 := z
    rw [nI_eq (by omega) (by omega)] at z
    subst z
    exact kI hk (by decide)
  refine And.intro (fun z => ?_) (fun n109 => ?_)
  · have z : nI c = nI 109 := z
    rw [nI_eq (by omega) (by omega)] at z
    subst z
    exact kI hk (by decide)
  refine And.intro (fun z => ?_) (fun n110 => ?_)
  · have z : nI c = nI 110 := z
    rw [nI_eq (by omega) (by omega)] at z
    subst z
    exact kI hk (by decide)
  refine And.intro (fun z => ?_) (fun n111 => ?_)
  · have z : nI c = nI 111 := z
    rw [nI_eq (by omega) (by omega)] at z
    subst z
    exact kI hk (by decide)
  refine And.intro (fun z => ?_) (fun n112 => ?_)
  · have z : nI c = nI 112 := z
    rw [nI_eq (by omega) (by omega)] at z
    subst z
    exact kI hk (by decide)
  refine And.intro (fun z => ?_) (fun n113 => ?_)
  · have z : nI c = nI 113 := z
    rw [nI_eq (by omega) (by omega)] at z
    subst z
    exact kI hk (by decide)
  have m109 : ¬ c = 109 := fun z => n109 (by rw [z]; rfl)
  have m107 : ¬ c = 107 := fun z => n107 (by rw [z]; rfl)
  have m99 : ¬ c = 99 := fun z => n99 (by rw [z]; rfl)
  have m110 : ¬ c = 110 := fun z => n110 (by rw [z]; rfl)
  have m113 : ¬ c = 113 := fun z => n113 (by rw [z]; rfl)
  refine kI hk ?_
  unfold kdI kdN
  rw [if_neg m109, if_neg m107, if_neg m99, if_neg m110, if_neg m113]
  rfl
theorem m_isFigure {k lo hi : Nat} (hp : pgM h S) (hg : pgB S) (hk : k < 100) (hl : lo < 10) (hh : hi < 10) (k1 : k < S 10 0 → dg (S 11 k) lo hi = true → K (some (.int 1)) h) (k0 : (k < S 10 0 → dg (S 11 k) lo hi = false) → K (some (.int 0)) h) : qCall (d + 2) 79 [.ref 15, .int (nI k), .int (nI lo), .int (nI hi)] h K := by
  have h10 := hg.1
  have ec : (nI k).toNatClampNeg = k := nI_clamp (by omega)
  refine call_wp (n := 30) (cut := []) _ (by decide) (Nat.lt_succ_self _) rfl rfl (Nat.le_of_ble_eq_true rfl) rfl ?_
  refine And.intro (fun z => ?_) (fun z => ?_)
  · have z : h.1 15 16 ≤ nI k := z
    rw [hp.1, nI_leI (by omega) (by omega)] at z
    exact ⟨Or.inl rfl, k0 (fun q => by omega)⟩
  · have z : ¬ h.1 15 16 ≤ nI k := z
    rw [hp.1, nI_leI (by omega) (by omega)] at z
    have kl : k < S 10 0 := by omega
    have hb := hg.2 k kl
    refine And.intro (vp_in_nI (by omega) (by decide)) ?_
    show qCall _ 73 [.int (h.1 24 (nI k).toNatClampNeg - 48), .int (nI lo), .int (nI hi)] h _
    rw [ec, hp.2 k kl]
    refine m_within (by omega) (by omega) (fun n h1 h2 e => ?_) (fun hne => ?_)
    · rw [dge _ (by omega) n (by omega)] at e
      refine And.intro (fun c => absurd c (by decide)) (fun _ => ?_)
      exact ⟨Or.inr rfl, k1 kl (by unfold dg; rw [decide_eq_true (by omega), decide_eq_true (by omega)]; rfl)⟩
    · refine And.intro (fun _ => ?_) (fun c => absurd rfl c)
      refine ⟨Or.inl rfl, k0 (fun _ => ?_)⟩
      cases b : dg (S 11 k) lo hi with
      | false => rfl
      | true =>
        have := dg_i b
        exact absurd ((dge _ (by omega) (S 11 k - 48) (by omega)).mpr (by omega)) (hne _ (by omega) (by omega))
theorem m_readOne {k : Nat} (hp : pgM h S) (hg : pgB S) (h4 : k % 4 = 0) (hk : k ≤ S 10 0) (hall : ∀ j, j < k → fit (S 11) j = true) (hs : stE (S 11) k = none) (ka : ∀ e, e < k + 3 → gfa (S 11) 0 (S 10 0) = e → gwh (S 11) (S 10 0) = false → K (some (.int (nI e))) h) (kb : k + 3 ≤ S 10 0 → (∀ j, j < k + 3 → fit (S 11) j = true) → stE (S 11) (k + 3) = none → K (some (.int (nI (k + 3)))) h) : qCall (d + 3) 80 [.ref 15, .int (nI k)] h K := by
  have h10 := hg.1
  have ec : (nI k).toNatClampNeg = k := nI_clamp (by omega)
  refine call_wp (n := 60) (cut := []) _ (by decide) (Nat.lt_succ_self _) rfl rfl (Nat.le_of_ble_eq_true rfl) rfl ?_
  refine And.intro (fun z => ?_) (fun z => ?_)
  · have z : nI k = h.1 15 16 := z
    rw [hp.1, nI_eq (by omega) (by omega)] at z
    have := stop_n hall hs hk (fun q => by omega)
    exact ka k (by omega) this.1 this.2
  · have z : ¬ nI k = h.1 15 16 := z
    rw [hp.1, nI_eq (by omega) (by omega)] at z
    have kl : k < S 10 0 := by omega
    have hb := hg.2 k kl
    refine And.intro (vp_in_nI (by omega) (by decide)) ?_
    show qCall _ 78 [.int (h.1 24 (nI k).toNatClampNeg)] h _
    rw [ec, hp.2 k kl]
    refine m_kindBy (by omega) ?_
    refine And.intro (fun y => ?_) (fun y => ?_)
    · have y : kdI (S 11 k) = -1 := y
      rw [kdI_m _ (by omega)] at y
      have := stop_n hall hs hk (fun q => by rw [fit_n hs, fitP_0 h4, y]; rfl)
      exact ka k (by omega) this.1 this.2
    · have y : ¬ kdI (S 11 k) = -1 := y
      rw [kdI_m _ (by omega)] at y
      have f0 : fit (S 11) k = true := by rw [fit_n hs, fitP_0 h4]; simpa using y
      have a1 := fit_ext hall f0
      have s1 := stE_miss hs (fun z => y (by rw [z]; rfl))
      show qCall _ 79 [.ref 15, .int (nI k + nI 1), .int (nI 1), .int (nI 9)] h _
      rw [nI_add]
      refine m_isFigure hp hg (by omega) (by decide) (by decide) (fun l1 b1 => ?_) (fun b1 => ?_)
      · refine And.intro (fun c => absurd c (by decide)) (fun _ => ?_)
        have f1 : fit (S 11) (k + 1) = true := by rw [fit_n s1, fitP_1 (by omega)]; exact b1
        have a2 := fit_ext a1 f1
        have s2 := stE_miss s1 (fun z => by rw [z, dg_59 (by decide)] at b1; cases b1)
        show qCall _ 79 [.ref 15, .int (nI k + nI 2), .int (nI 0), .int (nI 4)] h _
        rw [nI_add]
        refine m_isFigure hp hg (by omega) (by decide) (by decide) (fun l2 b2 => ?_) (fun b2 => ?_)
        · refine And.intro (fun c => absurd c (by decide)) (fun _ => ?_)
          have f2 : fit (S 11) (k + 1 + 1) = true := by rw [fit_n s2, fitP_2 (by omega)]; exact b2
          have a3 := fit_ext a2 f2
          have s3 := stE_miss s2 (fun z => by rw [z, dg_59 (by decide)] at b2; cases b2)
          have := kb (by omega) a3 s3
          rw [← nI_add k 3] at this
          exact this
        · refine And.intro (fun _ => ?_) (fun c => absurd rfl c)
          have := stop_n (L := S 10 0) a2 s2 (by omega) (fun q => by rw [fit_n s2, fitP_2 (by omega)]; exact b2 q)
          have := ka (k + 2) (by omega) this.1 this.2
          rw [← nI_add k 2] at this
          exact this
      · refine And.intro (fun _ => ?_) (fun c => absurd rfl c)
        have := stop_n (L := S 10 0) a1 s1 (by omega) (fun q => by rw [fit_n s1, fitP_1 (by omega)]; exact b1 q)
        have := ka (k + 1) (by omega) this.1 this.2
        rw [← nI_add k 1] at this
        exact this
theorem l_rs15 {k e : Nat} (hp : pgM h S) (hg : pgB S) (hk : k ≤ S 10 0) (he : k ≤ e + 5) (hall : ∀ j, j < k → fit (S 11) j = true) (hs : stE (S 11) k = some e) (hd : k < e + 5 → k < S 10 0 → dg (S 11 k) 1 9 = false) (kk : K (some (.int (nI (gfa (S 11) 0 (S 10 0))))) (qI h 15 18 (b2 (gwh (S 11) (S 10 0))))) : qAt (d + 2, 81, some .int, q0, K) 15 [some (.ref 15), some (.int (nI (e + 1))), some (.int (nI k))] [] h := by
  have h10 := hg.1
  have he2 := stE_lt k e hs
  refine at_wp [] 30 (Nat.le_of_ble_eq_true rfl) rfl ?_
  refine And.intro (fun z => ?_) (fun z => ?_)
  · have z : nI k = nI (e + 1) + nI 4 := z
    rw [nI_add, nI_eq (by omega) (by omega)] at z
    refine And.intro (fun y => ?_) (fun y => ?_)
    · have y : nI k = h.1 15 16 := y
      rw [hp.1, nI_eq (by omega) (by omega)] at y
      subst y
      rw [gfa_L hall, gwh_t hall he2.2 z] at kk
      exact ⟨Or.inr rfl, kk⟩
    · have y : ¬ nI k = h.1 15 16 := y
      rw [hp.1, nI_eq (by omega) (by omega)] at y
      have g1 := gfa_k (L := S 10 0) (by omega) hall (by rw [fit_s hs, decide_eq_false (by omega)]; rfl)
      rw [gwh_f (by omega), g1] at kk
      exact ⟨Or.inl rfl, kk⟩
  · have z : ¬ nI k = nI (e + 1) + nI 4 := z
    rw [nI_add, nI_eq (by omega) (by omega)] at z
    have := stop_s hall hs hk (fun q => by rw [fit_s hs, hd (by omega) q, Bool.and_false]) (by omega)
    rw [this.1, this.2] at kk
    exact ⟨Or.inl rfl, kk⟩
theorem l_rs {e : Nat} (hp : pgM h S) (hg : pgB S) (kk : K (some (.int (nI (gfa (S 11) 0 (S 10 0))))) (qI h 15 18 (b2 (gwh (S 11) (S 10 0))))) : ∀ m k, k + m = e + 5 → k ≤ S 10 0 → (∀ j, j < k → fit (S 11) j = true) → stE (S 11) k = some e → qAt (d + 2, 81, some .int, q0, K) 2 [some (.ref 15), some (.int (nI (e + 1))), some (.int (nI k))] [] h := by
  have h10 := hg.1
  intro m
  induction m with
  | zero =>
    intro k hk hL hall hs
    have he2 := stE_lt k e hs
    refine at_wp [15] 12 (Nat.le_of_ble_eq_true rfl) rfl ?_
    refine And.intro (fun _ => ?_) (fun c => absurd (by show nI (e + 1) + nI 4 ≤ nI k; rw [nI_add]; exact nI_le (by omega) (by omega)) c)
    exact l_rs15 hp hg hL (by omega) hall hs (fun q => by omega) kk
  | succ m ih =>
    intro k hk hL hall hs
    have he2 := stE_lt k e hs
    refine at_wp [2,15] 40 (Nat.le_of_ble_eq_true rfl) rfl ?_
    refine And.intro (fun c => absurd c (by show ¬ nI (e + 1) + nI 4 ≤ nI k; rw [nI_add]; exact nI_ge (by omega) (by omega))) (fun _ => ?_)
    refine m_isFigure (lo := 1) (hi := 9) hp hg (by omega) (by decide) (by decide) (fun l1 b1 => ?_) (fun b1 => ?_)
    · refine And.intro (fun c => absurd c (by decide)) (fun _ => ?_)
      have := ih (k + 1) (by omega) (by omega) (fit_ext hall (by rw [fit_s hs, b1, decide_eq_true (by omega)]; rfl)) (stE_up hs 1)
      rw [← nI_1 k] at this
      exact this
    · refine And.intro (fun _ => ?_) (fun c => absurd rfl c)
      exact l_rs15 hp hg hL (by omega) hall hs (fun _ q => b1 q) kk
theorem m_readSigns {e : Nat} (hp : pgM h S) (hg : pgB S) (hL : e < S 10 0) (hall : ∀ j, j < e + 1 → fit (S 11) j = true) (hs : stE (S 11) (e + 1) = some e) (kk : K (some (.int (nI (gfa (S 11) 0 (S 10 0))))) (qI h 15 18 (b2 (gwh (S 11) (S 10 0))))) : qCall (d + 3) 81 [.ref 15, .int (nI (e + 1))] h K := by
  refine call_wp (n := 10) (cut := [2]) _ (by decide) (Nat.lt_succ_self _) rfl rfl (Nat.le_of_ble_eq_true rfl) rfl ?_
  exact l_rs hp hg kk 4 (e + 1) (by omega) (by omega) hall hs
def rdI (h g : qH) : Prop := Fr [15] h g ∧ ∀ k, k ≠ 18 → k ≠ 19 → g.1 15 k = h.1 15 k
theorem pgM.rd {g : qH} (hp : pgM h S) (f : rdI h g) : pgM g S := by
  unfold pgM
  rw [f.2 16 (by decide) (by decide), f.1.1 24 (by decide)]
  exact hp
theorem rdI.I {g : qH} {k : Nat} {v : Int32} (f : rdI h g) (hk : k = 18 ∨ k = 19) : rdI h (qI g 15 k v) := ⟨f.1.I (by decide), fun j h1 h2 => by rw [qI_get, if_neg (by omega)]; exact f.2 j h1 h2⟩
theorem l_rd51 {t : Nat} {u : Option Value} (hp : pgM h S) (hg : pgB S) (ht : t < 4) (h19 : h.1 15 19 = nI (t + 1)) (hk : 4 * t + 3 ≤ S 10 0) (hall : ∀ j, j < 4 * t + 3 → fit (S 11) j = true) (hs : stE (S 11) (4 * t + 3) = none) (hn : 4 * t + 3 < S 10 0 → S 11 (4 * t + 3) = 59 → t = 0) (ka : gfa (S 11) 0 (S 10 0) = 4 * t + 3 → gwh (S 11) (S 10 0) = false → K (some (.int (nI (4 * t + 3)))) h) (kb : t < 3 → 4 * (t + 1) ≤ S 10 0 → (∀ j, j < 4 * (t + 1) → fit (S 11) j = true) → stE (S 11) (4 * (t + 1)) = none → qAt (d + 3, 82, some .int, q0, K) 8 [some (.ref 15), some (.int (nI (4 * (t + 1)))), u] [] h) : qAt (d + 3, 82, some .int, q0, K) 51 [some (.ref 15), some (.int (nI (4 * t + 3))), u] [] h := by
  have h10 := hg.1
  have ec : (nI (4 * t + 3)).toNatClampNeg = 4 * t + 3 := nI_clamp (by omega)
  have stop : (4 * t + 3 < S 10 0 → fit (S 11) (4 * t + 3) = false) → K (some (.int (nI (4 * t + 3)))) h := fun q => by
    have := stop_n hall hs hk q
    exact ka this.1 this.2
  have ef : fit (S 11) (4 * t + 3) = ((S 11 (4 * t + 3) == 44 && decide (4 * t + 3 < 15)) || (S 11 (4 * t + 3) == 59 && decide (7 ≤ 4 * t + 3))) := by
    rw [fit_n hs, fitP_3 (by omega)]
  refine at_wp [8] 40 (Nat.le_of_ble_eq_true rfl) rfl ?_
  refine And.intro (fun z => ?_) (fun z => ?_)
  · have z : nI (4 * t + 3) = h.1 15 16 := z
    rw [hp.1, nI_eq (by omega) (by omega)] at z
    exact stop (fun q => by omega)
  · have z : ¬ nI (4 * t + 3) = h.1 15 16 := z
    rw [hp.1, nI_eq (by omega) (by omega)] at z
    have kl : 4 * t + 3 < S 10 0 := by omega
    have hb := hg.2 _ kl
    refine And.intro (fun y => ?_) (fun y => ?_)
    · have y : h.1 15 19 = nI 4 := y
      rw [h19, nI_eq (by omega) (by omega)] at y
      refine stop (fun q => ?_)
      rw [ef, decide_eq_false (show ¬ 4 * t + 3 < 15 by omega), Bool.and_false, show (S 11 (4 * t + 3) == 59) = false from beq_eq_false_iff_ne.mpr (fun z => by have := hn q z; omega)]
      rfl
    · have y : ¬ h.1 15 19 = nI 4 := y
      rw [h19, nI_eq (by omega) (by omega)] at y
      refine And.intro (vp_in_nI (by omega) (by decide)) ?_
      refine And.intro (fun w => ?_) (fun w => ?_)
      · have w : h.1 24 (nI (4 * t + 3)).toNatClampNeg = nI 44 := w
        rw [ec, hp.2 _ kl, nI_eq (by omega) (by omega)] at w
        have f3 : fit (S 11) (4 * t + 3) = true := by
          rw [ef, w, decide_eq_true (show 4 * t + 3 < 15 by omega)]
          rfl
        rw [show 4 * (t + 1) = 4 * t + 3 + 1 by omega] at kb
        have := kb (by omega) (by omega) (fit_ext hall f3) (stE_miss hs (by rw [w]; decide))
        rw [← nI_1 (4 * t + 3)] at this
        exact this
      · have w : ¬ h.1 24 (nI (4 * t + 3)).toNatClampNeg = nI 44 := w
        rw [ec, hp.2 _ kl, nI_eq (by omega) (by omega)] at w
        refine stop (fun q => ?_)
        rw [ef, show (S 11 (4 * t + 3) == 44) = false from beq_eq_false_iff_ne.mpr w, Bool.false_and, Bool.false_or]
        by_cases e : S 11 (4 * t + 3) = 59
        · rw [show decide (7 ≤ 4 * t + 3) = false from decide_eq_false (by have := hn q e; omega), Bool.and_false]
        · rw [show (S 11 (4 * t + 3) == 59) = false from beq_eq_false_iff_ne.mpr e, Bool.false_and]
theorem l_rd (hp : pgM h S) (hg : pgB S) (hk : ∀ g, rdI h g → g.1 15 18 = b2 (gwh (S 11) (S 10 0)) → (gwh (S 11) (S 10 0) = true → g.1 15 19 = nI (S 10 0 / 4 - 1)) → K (some (.int (nI (gfa (S 11) 0 (S 10 0))))) g) : ∀ m t, t + m = 3 → ∀ g, rdI h g → g.1 15 18 = 0 → g.1 15 19 = nI t → 4 * t ≤ S 10 0 → (∀ j, j < 4 * t → fit (S 11) j = true) → stE (S 11) (4 * t) = none → ∀ u, qAt (d + 3, 82, some .int, q0, K) 8 [some (.ref 15), some (.int (nI (4 * t))), u] [] g := by
  have h10 := hg.1
  have main : ∀ t, t < 4 → (t < 3 → ∀ g, rdI h g → g.1 15 18 = 0 → g.1 15 19 = nI (t + 1) → 4 * (t + 1) ≤ S 10 0 → (∀ j, j < 4 * (t + 1) → fit (S 11) j = true) → stE (S 11) (4 * (t + 1)) = none → ∀ u, qAt (d + 3, 82, some .int, q0, K) 8 [some (.ref 15), some (.int (nI (4 * (t + 1)))), u] [] g) → ∀ g, rdI h g → g.1 15 18 = 0 → g.1 15 19 = nI t → 4 * t ≤ S 10 0 → (∀ j, j < 4 * t → fit (S 11) j = true) → stE (S 11) (4 * t) = none → ∀ u, qAt (d + 3, 82, some .int, q0, K) 8 [some (.ref 15), some (.int (nI (4 * t))), u] [] g := by
    intro t ht next g f e18 e19 hL hall hs u
    have hpg := hp.rd f
    refine at_wp [8,31] 60 (Nat.le_of_ble_eq_true rfl) rfl ?_
    refine And.intro (fun c => absurd c (by show ¬ nI 4 ≤ g.1 15 19; rw [e19]; exact nI_ge (by omega) (by omega))) (fun _ => ?_)
    refine m_readOne hpg hg (by omega) hL hall hs (fun e he g1 w1 => ?_) (fun l3 a3 s3 => ?_)
    · refine And.intro (fun c => ?_) (fun _ => ?_)
      · have c : nI e = nI (4 * t) + nI 3 := c
        rw [nI_add, nI_eq (by omega) (by omega)] at c
        omega
      · have := hk g f (by rw [w1]; exact e18) (fun z => by rw [w1] at z; cases z)
        rw [g1] at this
        exact this
    · refine And.intro (fun _ => ?_) (fun c => absurd (by show nI (4 * t + 3) = nI (4 * t) + nI 3; rw [nI_add]) c)
      obtain ⟨g2, eg2⟩ : ∃ g2, g2 = qI g 15 19 (nI (t + 1)) := ⟨_, rfl⟩
      have hgg : qI g 15 19 (g.1 15 19 + 1) = g2 := by rw [e19, nI_1, eg2]
      have f2 : rdI h g2 := by rw [eg2]; exact f.I (Or.inr rfl)
      have p2 := hp.rd f2
      have e182 : g2.1 15 18 = 0 := by rw [eg2]; exact e18
      have e192 : g2.1 15 19 = nI (t + 1) := by rw [eg2]; rfl
      have go51 : (4 * t + 3 < S 10 0 → S 11 (4 * t + 3) = 59 → t = 0) → qAt (d + 3, 82, some .int, q0, K) 51 [some (.ref 15), some (.int (nI (4 * t + 3))), some (.int (nI (4 * t + 3)))] [] g2 := fun hn => by
        refine l_rd51 p2 hg ht e192 l3 a3 s3 hn (fun q1 q2 => ?_) (fun t3 q1 q2 q3 => next t3 g2 f2 e182 e192 q1 q2 q3 _)
        have := hk g2 f2 (by rw [q2]; exact e182) (fun z => by rw [q2] at z; cases z)
        rw [q1] at this
        exact this
      show qAt _ 31 [some (.ref 15), some (.int (nI (4 * t + 3))), some (.int (nI (4 * t + 3)))] [] (qI g 15 19 (g.1 15 19 + 1))
      rw [hgg]
      have ec : (nI (4 * t + 3)).toNatClampNeg = 4 * t + 3 := nI_clamp (by omega)
      refine at_wp [51] 40 (Nat.le_of_ble_eq_true rfl) rfl ?_
      refine And.intro (fun z => ?_) (fun z => ?_)
      · have z : g2.1 15 16 ≤ nI (4 * t + 3) := z
        rw [p2.1, nI_leI (by omega) (by omega)] at z
        exact go51 (fun q => by omega)
      · have z : ¬ g2.1 15 16 ≤ nI (4 * t + 3) := z
        rw [p2.1, nI_leI (by omega) (by omega)] at z
        have kl : 4 * t + 3 < S 10 0 := by omega
        have hb := hg.2 _ kl
        refine And.intro (vp_in_nI (by omega) (by decide)) ?_
        refine And.intro (fun y => ?_) (fun y => ?_)
        · have y : g2.1 24 (nI (4 * t + 3)).toNatClampNeg = nI 59 := y
          rw [ec, p2.2 _ kl, nI_eq (by omega) (by omega)] at y
          refine And.intro (fun x => ?_) (fun x => ?_)
          · have x : g2.1 15 19 ≤ nI 1 := x
            rw [e192, nI_leI (by omega) (by omega)] at x
            exact go51 (fun _ _ => by omega)
          · have x : ¬ g2.1 15 19 ≤ nI 1 := x
            rw [e192, nI_leI (by omega) (by omega)] at x
            show qCall _ 81 [.ref 15, .int (nI (4 * t + 3) + nI 1)] g2 _
            rw [nI_add]
            have f3 : fit (S 11) (4 * t + 3) = true := by
              rw [fit_n s3, fitP_3 (by omega), y, decide_eq_true (show 7 ≤ 4 * t + 3 by omega)]
              rfl
            have s4 := stE_hit s3 y
            refine m_readSigns p2 hg kl (fit_ext a3 f3) s4 ?_
            refine hk _ (f2.I (Or.inl rfl)) (by rw [qI_get, if_pos ⟨rfl, rfl⟩]) (fun w => ?_)
            rw [qI_get, if_neg (by omega), e192]
            have : S 10 0 = 4 * t + 3 + 5 := by
              by_cases e : S 10 0 = 4 * t + 3 + 5
              · exact e
              · rw [gwh_s (stE_ge s4 (by omega)) e] at w
                cases w
            rw [show S 10 0 / 4 - 1 = t + 1 by omega]
        · have y : ¬ g2.1 24 (nI (4 * t + 3)).toNatClampNeg = nI 59 := y
          rw [ec, p2.2 _ kl, nI_eq (by omega) (by omega)] at y
          exact go51 (fun _ q => absurd q y)
  intro m
  induction m with
  | zero => exact fun t ht => main t (by omega) (fun q => by omega)
  | succ m ih => exact fun t ht => main t (by omega) (fun _ => ih (t + 1) (by omega))
theorem m_read (hp : pgM h S) (hg : pgB S) (hk : ∀ g, rdI h g → g.1 15 18 = b2 (gwh (S 11) (S 10 0)) → (gwh (S 11) (S 10 0) = true → g.1 15 19 = nI (S 10 0 / 4 - 1)) → K (some (.int (nI (gfa (S 11) 0 (S 10 0))))) g) : qCall (d + 4) 82 [.ref 15] h K := by
  refine call_wp (n := 20) (cut := [8]) _ (by decide) (Nat.lt_succ_self _) rfl rfl (Nat.le_of_ble_eq_true rfl) rfl ?_
  refine And.intro (Or.inl rfl) ?_
  exact l_rd hp hg hk 3 0 rfl (qI (qI h 15 18 0) 15 19 0) ⟨(Fr.rf.I (by decide)).I (by decide), fun k h1 h2 => by rw [qI_get, if_neg (by omega), qI_get, if_neg (by omega)]⟩ rfl rfl (by omega) (fun j hj => by omega) rfl none
end QMPG
end
section
/-! ## the reference's fault, court -/
theorem RM.rd {h g : qH} {S : gS} (hM : RM h S) (f : rdI h g) : RM g S := by
  obtain ⟨x1, x2, x3, x4, x5, x6, x7⟩ := hM
  have e : ∀ k, k ≠ 18 → k ≠ 19 → g.1 15 k = h.1 15 k := f.2
  have f1 : ∀ a, a ≠ 15 → g.1 a = h.1 a := fun a ha => f.1.1 a (by simp [ha])
  unfold RM RMk
  rw [e 15 (by decide) (by decide), e 16 (by decide) (by decide), e 0 (by decide) (by decide), e 22 (by decide) (by decide), e 23 (by decide) (by decide), e 24 (by decide) (by decide), e 25 (by decide) (by decide), e 26 (by decide) (by decide), e 27 (by decide) (by decide), e 28 (by decide) (by decide), f1 24 (by decide), f1 26 (by decide), f1 27 (by decide), f1 28 (by decide), f1 29 (by decide), f1 30 (by decide)]
  exact ⟨x1.h (fun k hk => e k (by omega) (by omega)) (fun a h1 h2 => f1 a (by omega)), x2, x3, x4, x5, x6, x7⟩
def ctI (S : gS) (h g : qH) (P p k : Nat) : Prop := Fr [15, 16, 17, 18, 19, 20] h g ∧ (∀ s, s ≠ 1 → s ≠ 18 → s ≠ 19 → g.1 15 s = h.1 15 s) ∧ g.1 15 1 = nI P ∧ (∀ q, q < p → g.1 16 q = nI (gct S 1 q) ∧ g.1 17 q = nI (gct S 2 q) ∧ g.1 18 q = nI (gct S 4 q) ∧ g.1 19 q = 0) ∧ ∀ j, j < k → g.1 20 j = nI (gct S 3 j)
theorem fk_m : ∀ f, f < 4 → Int32.ofInt 1 <<< (nI f &&& 31) = nI (fkn f) := by decide +kernel
section QMCO
variable {d : Nat} {h : qH} {K : qK} {S : gS}
theorem m_fault (hM : RM h S) (hG : RG S) (hk : ∀ h', Fr lM h h' → RM h' S → K (some (.int (aFault S))) h') : qCall (d + 5) 83 [.ref 15] h K := by
  refine call_wp (n := 12) (cut := []) _ (by decide) (Nat.lt_succ_self _) rfl rfl (Nat.le_of_ble_eq_true rfl) rfl ?_
  exact m_read hM.pg hG.pg (fun g f _ _ => hk g (f.1.mono (by decide)) (hM.rd f))
theorem pgM.ct {g : qH} {P p k : Nat} (hp : pgM h S) (f : ctI S h g P p k) : pgM g S := by
  unfold pgM
  rw [f.2.1 16 (by decide) (by decide) (by decide), f.1.1 24 (by decide)]
  exact hp
theorem l_ctB {P : Nat} {u : Option Value} (hp : pgM h S) (hg : pgB S) (eP : S 10 0 = 4 * P + 4) (hd : ∀ k, k < 4 → dg (S 11 (4 * P + k)) 1 9 = true) (hk : ∀ g x y, ctI S h g P P 4 → qAt (d + 4, 84, some .int, q0, K) 94 [some (.ref 15), some (.int (nI (4 * P + 4))), x, y] [] g) : ∀ m k, k + m = 4 → ∀ g, ctI S h g P P k → qAt (d + 4, 84, some .int, q0, K) 75 [some (.ref 15), some (.int (nI (4 * P + 4))), some (.int (nI k)), u] [] g := by
  have h10 := hg.1
  intro m
  induction m with
  | zero =>
    intro k hs g f
    have hs : k = 4 := by omega
    subst hs
    refine at_wp [94] 12 (Nat.le_of_ble_eq_true rfl) rfl ?_
    refine And.intro (fun _ => ?_) (fun c => absurd (by decide) c)
    exact hk g _ _ f
  | succ m ih =>
    intro k hs g f
    have hpg := hp.ct f
    obtain ⟨f1, f2, f3, f4, f5⟩ := f
    have dk := dg_i (hd k (by omega))
    have ec : (nI k).toNatClampNeg = k := nI_clamp (by omega)
    have ix : nI (4 * P + 4) - nI 4 + nI k = nI (4 * P + k) := by rw [pk_sub (by omega), nI_add, show 4 * P + 4 - 4 + k = 4 * P + k by omega]
    have ecx : (nI (4 * P + k)).toNatClampNeg = 4 * P + k := nI_clamp (by omega)
    refine at_wp [75] 40 (Nat.le_of_ble_eq_true rfl) rfl ?_
    refine And.intro (fun c => absurd c (nI_ge (a := k) (b := 4) (by omega) (by decide))) (fun _ => ?_)
    refine And.intro (by show vp_in (nI (4 * P + 4) - nI 4 + nI k) 22; rw [ix]; exact vp_in_nI (by omega) (by decide)) ?_
    refine And.intro (vp_in_nI (by omega) (by decide)) ?_
    have := ih (k + 1) (by omega) (qI g 20 k (nI (S 11 (4 * P + k) - 48))) ⟨f1.I (by decide), f2, f3, f4, fun j hj => by
      rw [qI_get]
      show _ = nI (S 11 (4 * (S 10 0 / 4 - 1) + j) - 48)
      rw [show S 10 0 / 4 - 1 = P by omega]
      by_cases e : j = k
      · rw [if_pos ⟨rfl, e⟩, e]
      · rw [if_neg (fun z => e z.2), f5 j (by omega)]
        show nI (S 11 (4 * (S 10 0 / 4 - 1) + j) - 48) = _
        rw [show S 10 0 / 4 - 1 = P by omega]⟩
    rw [← nI_1 k] at this
    show qAt _ 75 [some (.ref 15), some (.int (nI (4 * P + 4))), some (.int (nI k + 1)), u] [] (qI g 20 (nI k).toNatClampNeg (g.1 24 (nI (4 * P + 4) - nI 4 + nI k).toNatClampNeg - nI 48))
    rw [ix, ecx, ec, hpg.2 _ (by omega), pk_sub (by omega)]
    exact this
def ctH (g : qH) (p : Nat) (a b c : Int32) : qH := qI (qI (qI (qI g 16 p a) 17 p b) 18 p c) 19 p 0
theorem ctI.one {g : qH} {P p : Nat} (f : ctI S h g P p 0) : ctI S h (ctH g p (nI (gct S 1 p)) (nI (gct S 2 p)) (nI (gct S 4 p))) P (p + 1) 0 := by
  obtain ⟨f1, f2, f3, f4, f5⟩ := f
  refine ⟨(((f1.I (by decide)).I (by decide)).I (by decide)).I (by decide), f2, f3, fun q hq => ?_, fun j hj => by omega⟩
  have v1 : (ctH g p (nI (gct S 1 p)) (nI (gct S 2 p)) (nI (gct S 4 p))).1 16 q = if q = p then nI (gct S 1 p) else g.1 16 q := by simp [ctH, qI]
  have v2 : (ctH g p (nI (gct S 1 p)) (nI (gct S 2 p)) (nI (gct S 4 p))).1 17 q = if q = p then nI (gct S 2 p) else g.1 17 q := by simp [ctH, qI]
  have v3 : (ctH g p (nI (gct S 1 p)) (nI (gct S 2 p)) (nI (gct S 4 p))).1 18 q = if q = p then nI (gct S 4 p) else g.1 18 q := by simp [ctH, qI]
  have v4 : (ctH g p (nI (gct S 1 p)) (nI (gct S 2 p)) (nI (gct S 4 p))).1 19 q = if q = p then 0 else g.1 19 q := by simp [ctH, qI]
  rw [v1, v2, v3, v4]
  by_cases e : q = p
  · rw [if_pos e, if_pos e, if_pos e, if_pos e, e]
    exact ⟨rfl, rfl, rfl, rfl⟩
  · rw [if_neg e, if_neg e, if_neg e, if_neg e]
    exact f4 q (by omega)
theorem l_ctA {P : Nat} (hp : pgM h S) (hg : pgB S) (p4 : P ≤ 4) (eP : S 10 0 = 4 * P + 4) (hq : ∀ p, p < P → kdN (S 11 (4 * p)) < 5 ∧ dg (S 11 (4 * p + 1)) 1 9 = true ∧ dg (S 11 (4 * p + 2)) 0 4 = true) (hd : ∀ k, k < 4 → dg (S 11 (4 * P + k)) 1 9 = true) (hk : ∀ g x y, ctI S h g P P 4 → qAt (d + 4, 84, some .int, q0, K) 94 [some (.ref 15), some (.int (nI (4 * P + 4))), x, y] [] g) : ∀ m p, p + m = P → ∀ g u, ctI S h g P p 0 → qAt (d + 4, 84, some .int, q0, K) 14 [some (.ref 15), some (.int (nI (4 * P + 4))), some (.int (nI p)), u] [] g := by
  have h10 := hg.1
  intro m
  induction m with
  | zero =>
    intro p hs g u f
    have hs : p = P := by omega
    subst hs
    have f3 := f.2.2.1
    refine at_wp [75] 12 (Nat.le_of_ble_eq_true rfl) rfl ?_
    refine And.intro (fun _ => ?_) (fun c => absurd (by show g.1 15 1 ≤ nI p; rw [f3]; exact nI_le (Nat.le_refl _) (by omega)) c)
    exact l_ctB hp hg eP hd hk 4 0 rfl g f
  | succ m ih =>
    intro p hs g u f
    have hpg := hp.ct f
    have f3 := f.2.2.1
    obtain ⟨q1, q2, q3⟩ := hq p (by omega)
    have d1 := dg_i q2
    have d2 := dg_i q3
    have ec : (nI p).toNatClampNeg = p := nI_clamp (by omega)
    have x0 : nI 4 * nI p = nI (4 * p) := pk_mul 4 p
    have x1 : nI 4 * nI p + nI 1 = nI (4 * p + 1) := by rw [pk_mul, nI_add]
    have x2 : nI 4 * nI p + nI 2 = nI (4 * p + 2) := by rw [pk_mul, nI_add]
    have c0 : (nI (4 * p)).toNatClampNeg = 4 * p := nI_clamp (by omega)
    have c1 : (nI (4 * p + 1)).toNatClampNeg = 4 * p + 1 := nI_clamp (by omega)
    have c2 : (nI (4 * p + 2)).toNatClampNeg = 4 * p + 2 := nI_clamp (by omega)
    have b0 := hg.2 (4 * p) (by omega)
    have go := ih (p + 1) (by omega) _ (some (.int (nI (S 11 (4 * p + 2) - 48)))) f.one
    rw [← nI_1 p] at go
    refine at_wp [14,53] 90 (Nat.le_of_ble_eq_true rfl) rfl ?_
    refine And.intro (fun c => absurd c (by show ¬ g.1 15 1 ≤ nI p; rw [f3]; exact nI_ge (by omega) (by omega))) (fun _ => ?_)
    refine And.intro (by show vp_in (nI 4 * nI p) 22; rw [x0]; exact vp_in_nI (by omega) (by decide)) ?_
    show qCall _ 78 [.int (g.1 24 (nI 4 * nI p).toNatClampNeg)] g _
    rw [x0, c0, hpg.2 _ (by omega)]
    refine m_kindBy (by omega) ?_
    rw [kdI_n q1]
    refine And.intro (vp_in_nI (by omega) (by decide)) ?_
    refine And.intro (by show vp_in (nI 4 * nI p + nI 1) 22; rw [x1]; exact vp_in_nI (by omega) (by decide)) ?_
    refine And.intro (vp_in_nI (by omega) (by decide)) ?_
    refine And.intro (by show vp_in (nI 4 * nI p + nI 2) 22; rw [x2]; exact vp_in_nI (by omega) (by decide)) ?_
    show qAt _ 53 [some (.ref 15), some (.int (nI (4 * P + 4))), some (.int (nI p)), u] [.int (g.1 24 (nI 4 * nI p + nI 2).toNatClampNeg - nI 48)] (qI (qI g 16 (nI p).toNatClampNeg (nI (kdN (S 11 (4 * p))))) 17 (nI p).toNatClampNeg (g.1 24 (nI 4 * nI p + nI 1).toNatClampNeg - nI 48))
    rw [x1, x2, c1, c2, ec, hpg.2 _ (by omega), hpg.2 _ (by omega), pk_sub (by omega), pk_sub (by omega)]
    refine at_wp [14] 60 (Nat.le_of_ble_eq_true rfl) rfl ?_
    refine And.intro (fun z => ?_) (fun z => ?_)
    · have z : nI (S 11 (4 * p + 2) - 48) = nI 4 := z
      rw [nI_eq (by omega) (by omega)] at z
      refine And.intro (vp_in_nI (by omega) (by decide)) ?_
      refine And.intro (vp_in_nI (by omega) (by decide)) ?_
      have e4 : nI (gct S 4 p) = 0 := by
        show nI (fkn (S 11 (4 * p + 2) - 48)) = 0
        rw [z]
        rfl
      rw [e4] at go
      show qAt _ 14 _ [] (qI (qI (qI (qI g 16 p (nI (kdN (S 11 (4 * p))))) 17 p (nI (S 11 (4 * p + 1) - 48))) 18 (nI p).toNatClampNeg 0) 19 (nI p).toNatClampNeg 0)
      rw [ec]
      exact go
    · have z : ¬ nI (S 11 (4 * p + 2) - 48) = nI 4 := z
      rw [nI_eq (by omega) (by omega)] at z
      refine And.intro (vp_in_nI (by omega) (by decide)) ?_
      refine And.intro (vp_in_nI (by omega) (by decide)) ?_
      have e4 : nI (gct S 4 p) = Int32.ofInt 1 <<< (nI (S 11 (4 * p + 2) - 48) &&& 31) := by
        rw [fk_m _ (by omega)]
        rfl
      rw [e4] at go
      show qAt _ 14 _ [] (qI (qI (qI (qI g 16 p (nI (kdN (S 11 (4 * p))))) 17 p (nI (S 11 (4 * p + 1) - 48))) 18 (nI p).toNatClampNeg (Int32.ofInt 1 <<< (nI (S 11 (4 * p + 2) - 48) &&& 31))) 19 (nI p).toNatClampNeg 0)
      rw [ec]
      exact go
def ctE (g : qH) (v : Int32) : qH := qI (qI (qI (qI (qI (qI (qI g 15 0 v) 15 7 0) 15 8 0) 15 9 0) 15 10 0) 15 11 0) 15 16 0
theorem ctE_o {g : qH} {v : Int32} {a : Nat} (ha : a ≠ 15) : (ctE g v).1 a = g.1 a := by
  unfold ctE
  rw [qI_ne ha, qI_ne ha, qI_ne ha, qI_ne ha, qI_ne ha, qI_ne ha, qI_ne ha]
theorem m_court (hM : RM h S) (hG : RG S) (hk : ∀ h', Fr lM h h' → RM h' (uCourt S) → K (some (.int (aCourt S))) h') : qCall (d + 5) 84 [.ref 15] h K := by
  unfold uCourt aCourt at hk
  refine call_wp (n := 20) (cut := [14]) _ (by decide) (Nat.lt_succ_self _) rfl rfl (Nat.le_of_ble_eq_true rfl) rfl ?_
  refine m_read hM.pg hG.pg (fun g f w18 w19 => ?_)
  have hMg := hM.rd f
  cases hw : gwh (S 11) (S 10 0) with
  | false =>
    rw [hw] at w18
    simp only [hw] at hk
    refine And.intro (fun _ => ?_) (fun c => absurd (by show g.1 15 18 = 0; rw [w18]; rfl) c)
    exact hk g (f.1.mono (by decide)) hMg
  | true =>
    have w19 := w19 hw
    rw [hw] at w18
    simp only [if_pos hw] at hk
    obtain ⟨P, p2, p4, eL, hq, hd⟩ := gwh_i hG.pg.1 hw
    have h10 := hG.pg.1
    have eP : S 10 0 / 4 - 1 = P := by omega
    have eP2 : gct S 0 0 = P := eP
    have eg : gfa (S 11) 0 (S 10 0) = 4 * P + 4 := by
      have := hw
      unfold gwh at this
      simp only [Bool.and_eq_true, decide_eq_true_eq] at this
      omega
    refine And.intro (fun c => absurd (show g.1 15 18 = 0 from c) (by rw [w18]; decide)) (fun _ => ?_)
    show qAt _ 14 [some (.ref 15), some (.int (nI (gfa (S 11) 0 (S 10 0)))), some (.int (nI 0)), none] [] (qI g 15 1 (g.1 15 19))
    rw [eg, w19, eP]
    have hpg : pgM (qI g 15 1 (nI P)) S := ⟨hMg.2.2.1, hMg.2.2.2.1⟩
    refine l_ctA (h := qI g 15 1 (nI P)) hpg hG.pg p4 eL hq hd (fun k x y c => ?_) P 0 (by omega) _ none ⟨Fr.rf, fun _ _ _ _ => rfl, rfl, fun q hq => by omega, fun q hq => by omega⟩
    obtain ⟨c1, c2, c3, c4, c5⟩ := c
    have e0 : k.1 15 0 = nI (S 12 1) := by
      rw [c2 0 (by decide) (by decide) (by decide)]
      exact hMg.2.2.2.2.1
    refine at_wp [] 60 (Nat.le_of_ble_eq_true rfl) rfl ?_
    show K (some (.int (k.1 15 1))) (ctE k (k.1 15 0 + 1))
    rw [e0, nI_1, c3]
    have fE : Fr [15] k (ctE k (nI (S 12 1 + 1))) := ((((((Fr.rf.I (by decide)).I (by decide)).I (by decide)).I (by decide)).I (by decide)).I (by decide)).I (by decide)
    have hk := hk (ctE k (nI (S 12 1 + 1))) ((f.1.mono (by decide)).tr ((Fr.I Fr.rf (by decide)).tr ((c1.mono (by decide)).tr (fE.mono (by decide)))))
    rw [eP] at hk
    refine hk ?_
    obtain ⟨x1, x2, x3, x4, x5, ⟨kf, kc, y1, y2, y3, y4, y5⟩, x7⟩ := hMg
    have ek : ∀ s, s ≠ 0 → s ≠ 7 → s ≠ 8 → s ≠ 9 → s ≠ 10 → s ≠ 11 → s ≠ 16 → (ctE k (nI (S 12 1 + 1))).1 15 s = k.1 15 s := fun s h0 h7 h8 h9 h10 h11 h16 => by simp [ctE, qI, h0, h7, h8, h9, h10, h11, h16]
    have eo : ∀ s, s ≠ 0 → s ≠ 7 → s ≠ 8 → s ≠ 9 → s ≠ 10 → s ≠ 11 → s ≠ 16 → s ≠ 1 → s ≠ 18 → s ≠ 19 → (ctE k (nI (S 12 1 + 1))).1 15 s = g.1 15 s := fun s h0 h7 h8 h9 h10 h11 h16 h1 h18 h19 => by
      rw [ek s h0 h7 h8 h9 h10 h11 h16, c2 s h1 h18 h19, qI_get, if_neg (fun z => h1 z.2)]
    refine ⟨⟨?_, fun p hp => ?_, fun j hj => ?_, rfl, rfl, rfl, rfl, rfl, fun i hi => absurd hi (Nat.not_lt_zero i)⟩, ?_, rfl, fun i hi => absurd hi (Nat.not_lt_zero i), rfl, ⟨kf, kc, ?_, y2, ?_, Nat.le_succ_of_le y4, ?_⟩, fun z => absurd (show (0 : Nat) = 1 from z) (by decide)⟩
    · rw [ek 1 (by decide) (by decide) (by decide) (by decide) (by decide) (by decide) (by decide), c3, eP2]
    · have hp : p < P := by omega
      rw [ctE_o (by decide), ctE_o (by decide), ctE_o (by decide), ctE_o (by decide)]
      exact c4 p hp
    · rw [ctE_o (by decide)]
      exact c5 j hj
    · rw [eo 15 (by decide) (by decide) (by decide) (by decide) (by decide) (by decide) (by decide) (by decide) (by decide) (by decide)]
      exact x2
    · rw [eo 22 (by decide) (by decide) (by decide) (by decide) (by decide) (by decide) (by decide) (by decide) (by decide) (by decide)]
      exact y1
    · rw [eo 23 (by decide) (by decide) (by decide) (by decide) (by decide) (by decide) (by decide) (by decide) (by decide) (by decide)]
      exact y3
    · refine ⟨fun z => absurd (show (0 : Nat) = 1 from z) (by decide), fun z => ?_⟩
      have : kc = S 12 1 + 1 := z.2
      omega
end QMCO
end
section
/-! ## what every call keeps -/
theorem RX.keep {h h' : qH} {S : gS} (hX : RX h S) (e : ∀ a, a ∈ lX → h'.1 a = h.1 a) : RX h' S := by
  unfold RX RC RS at hX ⊢
  rw [e 0 (by decide), e 1 (by decide), e 2 (by decide), e 3 (by decide), e 4 (by decide), e 5 (by decide), e (5 + 1) (by decide), e (5 + 2) (by decide), e 8 (by decide), e (8 + 1) (by decide), e (8 + 2) (by decide)]
  exact hX
theorem RM.keep {h h' : qH} {S : gS} (hM : RM h S) (e : ∀ a, a ∈ lM → h'.1 a = h.1 a) : RM h' S := by
  unfold RM RMc RMk at hM ⊢
  rw [e 15 (by decide), e 16 (by decide), e 17 (by decide), e 18 (by decide), e 19 (by decide), e 20 (by decide), e 21 (by decide), e 22 (by decide), e 23 (by decide), e 24 (by decide), e 26 (by decide), e 27 (by decide), e 28 (by decide), e 29 (by decide), e 30 (by decide)]
  exact hM
theorem RM.x {h h' : qH} {S : gS} (hM : RM h S) (f : Fr lX h h') : RM h' S := hM.keep (fun a ha => f.1 a (fun z => (show ∀ a ∈ lM, a ∉ lX by decide) a ha z))
theorem RX.m {h h' : qH} {S : gS} (hX : RX h S) (f : ∀ a, a ∉ lM → h'.1 a = h.1 a) : RX h' S := hX.keep (fun a ha => f a (fun z => (show ∀ a ∈ lX, a ∉ lM by decide) a ha z))
theorem isg_lt {S : gS} {k : Int32} {n : Nat} (h : isg S k = some n) : n < 4 := by
  unfold isg at h
  split at h
  · exact (ix_lt (by decide) h).1
  · cases h
theorem ip_lt {S : gS} (hB : GB S) {p : Int32} {n : Nat} (h : ip S p = some n) : n < S 0 0 := (ix_lt (by have := hB.1; omega) h).1
def Kp (S S' : gS) : Prop := RG S' ∧ S' 12 1 ≤ S 12 1 + 1
theorem Kp.rf {S : gS} (hG : RG S) : Kp S S := ⟨hG, by omega⟩
theorem k_forbid {S : gS} (hG : RG S) (k : Int32) (is : Bool) : Kp S (uForbid S k is) := by
  unfold uForbid
  cases e : isg S k with
  | none => exact Kp.rf hG
  | some n =>
    have hv := gfb_lt hG.1 (isg_lt e) is
    dsimp only
    refine ⟨hG.scene ?_ ?_ (fun a ha => sS_ne (by omega)), Nat.le_succ _⟩
    · obtain ⟨b1, b2, b3, b4, b5, b6⟩ := hG.1
      exact ⟨b1, b2, b3, b4, b5, hv⟩
    · exact hG.2.1
theorem k_forget {S : gS} (hG : RG S) : Kp S (sS S 5 4 0) := by
  refine ⟨hG.scene ?_ ?_ (fun a ha => sS_ne (by omega)), Nat.le_succ _⟩
  · exact hG.1
  · exact ⟨Nat.zero_le 6, fun i hi => absurd hi (Nat.not_lt_zero i)⟩
theorem k_tell {S : gS} (hG : RG S) (f t s : Int32) : Kp S (uTell S f t s) := by
  unfold uTell
  cases e : iTell S f t s with
  | none => exact Kp.rf hG
  | some q =>
    dsimp only
    by_cases g : gcan S q.1 q.2.1 q.2.2 = true
    · rw [if_pos g]
      unfold iTell at e
      cases e1 : ip S f with
      | none => rw [e1] at e; cases e
      | some f =>
        cases e2 : ip S t with
        | none => rw [e1, e2] at e; cases e
        | some t =>
          cases e3 : isg S s with
          | none => rw [e1, e2, e3] at e; cases e
          | some s =>
            rw [e1, e2, e3] at e
            dsimp only at e
            split at e
            · cases e
            · cases e
              dsimp only at g ⊢
              refine ⟨hG.scene (gpass_B hG.1 (ip_lt hG.1 e1) (ip_lt hG.1 e2) (isg_lt e3)) ?_ (fun a ha => ?_), ?_⟩
              · exact hG.2.1
              · funext y
                unfold gpass
                rw [if_neg (by omega), if_neg (by omega), if_neg (by omega), if_neg (by omega), if_neg (by omega)]
              · exact Nat.le_succ _
    · rw [if_neg g]
      exact Kp.rf hG
theorem k_plan {S : gS} (hG : RG S) (p w : Int32) : Kp S (uPlan S p w) := by
  unfold uPlan
  cases e : ip S p with
  | none => exact Kp.rf hG
  | some n =>
    dsimp only
    by_cases c1 : w = 0 ∨ (wix w).isSome = true
    · rw [if_pos c1]
      by_cases c2 : okPlan S n = true
      · rw [if_pos c2]
        have lt : S 12 0 < 12 := by
          unfold okPlan at c2
          simp only [Bool.and_eq_true, decide_eq_true_eq] at c2
          exact c2.2
        have g : ∀ a, a ≠ 12 → sS S 12 0 (S 12 0 + 1) a = S a := fun a ha => sS_ne ha
        have gk : ∀ a, a < 10 → gkept (sS S 12 0 (S 12 0 + 1)) a = gkept S a := fun a ha => by
          funext y
          unfold gkept
          rw [g 14 (by decide), g 15 (by decide), g 16 (by decide), g 17 (by decide), g 18 (by decide), g 19 (by decide), g a (by omega)]
        obtain ⟨g1, g2, g3, g4, g5, g6, g7⟩ := hG
        exact ⟨⟨g1, g2, fun z => ⟨(g3 z).1.S gk, (g3 z).2.S gk⟩, g4, lt, g6, g7⟩, Nat.le_succ _⟩
      · rw [if_neg c2]
        exact Kp.rf hG
    · rw [if_neg c1]
      exact Kp.rf hG
theorem k_ask {S : gS} (hG : RG S) (p s : Int32) (so : Bool) : Kp S (uAsk S p s so) := by
  unfold uAsk
  cases e : ip S p with
  | none => exact Kp.rf hG
  | some n =>
    dsimp only
    cases e2 : ix s 16 with
    | none => exact Kp.rf hG
    | some g =>
      dsimp only
      by_cases c : 6 ≤ S 5 4
      · rw [if_pos c]
        exact Kp.rf hG
      · rw [if_neg c]
        refine ⟨hG.scene hG.1 ?_ (fun a ha => gask_o ha), Nat.le_succ _⟩
        have hn := ip_lt hG.1 e
        have hg := (ix_lt (by decide) e2).1
        refine ⟨show S 5 4 + 1 ≤ 6 by omega, fun i hi => ?_⟩
        have hi : i < S 5 4 + 1 := hi
        show (if 7 = 7 ∧ i = S 5 4 then n else S 7 i) < S 0 0 ∧ (if 8 = 8 ∧ i = S 5 4 then g else S 8 i) < 16 ∧ (if 9 = 9 ∧ i = S 5 4 then (if so = true then 1 else 0) else S 9 i) < 2
        by_cases q : i = S 5 4
        · rw [if_pos ⟨rfl, q⟩, if_pos ⟨rfl, q⟩, if_pos ⟨rfl, q⟩]
          exact ⟨hn, hg, by split <;> decide⟩
        · rw [if_neg (fun z => q z.2), if_neg (fun z => q z.2), if_neg (fun z => q z.2)]
          exact hG.2.1.2 i (by omega)
theorem k_letter {S : gS} (hG : RG S) (c : Int32) : Kp S (uLetter S c) := by
  unfold uLetter
  by_cases c1 : c < 32 ∨ 126 < c
  · rw [if_pos c1]
    exact Kp.rf hG
  · rw [if_neg c1]
    by_cases c2 : 22 ≤ S 10 0
    · rw [if_pos c2]
      exact Kp.rf hG
    · rw [if_neg c2]
      have hc : ∃ j, 32 ≤ j ∧ j ≤ 126 ∧ c.toNatClampNeg = j := by
        have n1 : ¬ c < 0 := fun z => c1 (Or.inl (Int32.lt_trans z (show (0 : Int32) < 32 by decide)))
        obtain ⟨j, hj, rfl⟩ := nI_of n1
        refine ⟨j, ?_, ?_, nI_clamp hj⟩
        · rcases Nat.lt_or_ge j 32 with q | q
          · exact absurd (Or.inl (nI_lt (b := 32) q (by decide))) c1
          · exact q
        · rcases Nat.lt_or_ge 126 j with q | q
          · exact absurd (Or.inr (nI_lt (a := 126) q hj)) c1
          · exact q
      obtain ⟨j, j1, j2, ej⟩ := hc
      rw [ej]
      have g : ∀ a, a ≠ 10 → a ≠ 11 → sS (sS S 11 (S 10 0) j) 10 0 (S 10 0 + 1) a = S a := fun a h1 h2 => by rw [sS_ne h1, sS_ne h2]
      have gk : ∀ a, a < 10 → gkept (sS (sS S 11 (S 10 0) j) 10 0 (S 10 0 + 1)) a = gkept S a := fun a ha => by
        funext y
        unfold gkept
        rw [g 14 (by decide) (by decide), g 15 (by decide) (by decide), g 16 (by decide) (by decide), g 17 (by decide) (by decide), g 18 (by decide) (by decide), g 19 (by decide) (by decide), g a (by omega) (by omega)]
      obtain ⟨g1, g2, g3, g4, g5, g6, g7⟩ := hG
      refine ⟨⟨g1, g2, fun z => ⟨(g3 z).1.S gk, (g3 z).2.S gk⟩, g4, g5, show S 10 0 + 1 ≤ 22 by omega, fun i hi => ?_⟩, Nat.le_succ _⟩
      have hi : i < S 10 0 + 1 := hi
      show 32 ≤ (if 11 = 11 ∧ i = S 10 0 then j else S 11 i) ∧ (if 11 = 11 ∧ i = S 10 0 then j else S 11 i) ≤ 126
      by_cases q : i = S 10 0
      · rw [if_pos ⟨rfl, q⟩]
        exact ⟨j1, j2⟩
      · rw [if_neg (fun z => q z.2)]
        exact g7 i (by omega)
theorem k_blank {S : gS} (hG : RG S) : Kp S (sS S 10 0 0) := by
  have g : ∀ a, a ≠ 10 → sS S 10 0 0 a = S a := fun a h1 => sS_ne h1
  have gk : ∀ a, a < 10 → gkept (sS S 10 0 0) a = gkept S a := fun a ha => by
    funext y
    unfold gkept
    rw [g 14 (by decide), g 15 (by decide), g 16 (by decide), g 17 (by decide), g 18 (by decide), g 19 (by decide), g a (by omega)]
  obtain ⟨g1, g2, g3, g4, g5, g6, g7⟩ := hG
  exact ⟨⟨g1, g2, fun z => ⟨(g3 z).1.S gk, (g3 z).2.S gk⟩, g4, g5, Nat.zero_le 22, fun i hi => absurd hi (Nat.not_lt_zero i)⟩, Nat.le_succ _⟩
theorem k_image {S : gS} (hG : RG S) : Kp S (uImage S) := by
  unfold uImage
  by_cases c : S 0 0 = 0
  · rw [if_pos c]
    exact Kp.rf hG
  · rw [if_neg c]
    obtain ⟨g1, g2, g3, g4, g5, g6, g7⟩ := hG
    refine ⟨⟨g1.S (fun a ha => gimg_o (by omega)), g2.S (fun a ha => gimg_o (by omega)), fun z => ⟨g1.S (gkept_i S), g2.S (gkept_i S)⟩, by show (1 : Nat) < 2; decide, g5, g6, g7⟩, Nat.le_succ _⟩
theorem k_restore {S : gS} (hG : RG S) : Kp S (uRestore S) := by
  unfold uRestore
  by_cases c : S 13 0 = 0
  · rw [if_pos c]
    exact Kp.rf hG
  · rw [if_neg c]
    obtain ⟨g1, g2, g3, g4, g5, g6, g7⟩ := hG
    have q := g3 (by omega)
    refine ⟨⟨q.1, q.2, fun z => ?_, g4, g5, g6, g7⟩, Nat.le_succ _⟩
    rw [gkept_k]
    exact q
theorem k_court {S : gS} (hG : RG S) : Kp S (uCourt S) := by
  unfold uCourt
  by_cases c : gwh (S 11) (S 10 0) = true
  · rw [if_pos c]
    exact ⟨gct_G hG c, Nat.le_refl _⟩
  · rw [if_neg c]
    exact Kp.rf hG
end
section
/-! ## the law's loop -/
theorem lw_in {n L : Nat} (j : Nat) (h4 : 4 * n + 4 ≤ L) (hL : L ≤ 256) (hj : j < 4) : vp_in (nI (4 * n) + nI j) (L + 1 - 1) := by
  rw [nI_add]
  exact vp_in_nI (by omega) (by omega)
section QLL
variable {d : Nat} {h : qH} {K : qK} {S : gS} {L : Nat} {xs : Nat → Int32} {n : Nat}
theorem o_letter (hX : RX h S) (hM : RM h S) (hG : RG S) (hn : S 12 1 ≤ n) (h4 : 4 * n + 4 ≤ L) (hL : L ≤ 256) (nx : ∀ h' S', RX h' S' → RM h' S' → Kp S S' → qAt (d + 10, 138, some .boolean, (L + 1, xs), K) 419 [some (.ref 99), some (.ref 0), some (.ref 15), some (.int (nI (4 * n)))] [] h') : qAt (d + 10, 138, some .boolean, (L + 1, xs), K) 22 [some (.ref 99), some (.ref 0), some (.ref 15), some (.int (nI (4 * n)))] [] h := by
  refine at_wp [419] 120 (Nat.le_of_ble_eq_true rfl) rfl ?_
  refine And.intro (lw_in 1 h4 hL (by decide)) ?_
  refine x_letter hX hG (fun h1 f1 X1 => ?_)
  refine And.intro (lw_in 1 h4 hL (by decide)) ?_
  refine m_letter (hM.x f1) hG (fun h2 f2 M2 => ?_)
  refine And.intro (fun _ => ?_) (fun c => absurd rfl c)
  exact nx h2 _ (X1.m f2.1) M2 (k_letter hG _)
theorem o_blank (hX : RX h S) (hM : RM h S) (hG : RG S) (hn : S 12 1 ≤ n) (h4 : 4 * n + 4 ≤ L) (hL : L ≤ 256) (nx : ∀ h' S', RX h' S' → RM h' S' → Kp S S' → qAt (d + 10, 138, some .boolean, (L + 1, xs), K) 419 [some (.ref 99), some (.ref 0), some (.ref 15), some (.int (nI (4 * n)))] [] h') : qAt (d + 10, 138, some .boolean, (L + 1, xs), K) 39 [some (.ref 99), some (.ref 0), some (.ref 15), some (.int (nI (4 * n)))] [] h := by
  refine at_wp [419] 120 (Nat.le_of_ble_eq_true rfl) rfl ?_
  refine x_blank hX (fun h1 f1 X1 => ?_)
  refine m_blank (hM.x f1) (fun h2 f2 M2 => ?_)
  refine And.intro (fun _ => ?_) (fun c => absurd rfl c)
  exact nx h2 _ (X1.m f2.1) M2 (k_blank hG)
theorem o_fault (hX : RX h S) (hM : RM h S) (hG : RG S) (hn : S 12 1 ≤ n) (h4 : 4 * n + 4 ≤ L) (hL : L ≤ 256) (nx : ∀ h' S', RX h' S' → RM h' S' → Kp S S' → qAt (d + 10, 138, some .boolean, (L + 1, xs), K) 419 [some (.ref 99), some (.ref 0), some (.ref 15), some (.int (nI (4 * n)))] [] h') : qAt (d + 10, 138, some .boolean, (L + 1, xs), K) 46 [some (.ref 99), some (.ref 0), some (.ref 15), some (.int (nI (4 * n)))] [] h := by
  refine at_wp [419] 120 (Nat.le_of_ble_eq_true rfl) rfl ?_
  refine x_fault hX hG ?_
  refine m_fault hM hG (fun h2 f2 M2 => ?_)
  refine And.intro (fun _ => ?_) (fun c => absurd rfl c)
  exact nx h2 S (hX.m f2.1) M2 (Kp.rf hG)
theorem o_court (hX : RX h S) (hM : RM h S) (hG : RG S) (hn : S 12 1 ≤ n) (h4 : 4 * n + 4 ≤ L) (hL : L ≤ 256) (nx : ∀ h' S', RX h' S' → RM h' S' → Kp S S' → qAt (d + 10, 138, some .boolean, (L + 1, xs), K) 419 [some (.ref 99), some (.ref 0), some (.ref 15), some (.int (nI (4 * n)))] [] h') : qAt (d + 10, 138, some .boolean, (L + 1, xs), K) 53 [some (.ref 99), some (.ref 0), some (.ref 15), some (.int (nI (4 * n)))] [] h := by
  refine at_wp [419] 120 (Nat.le_of_ble_eq_true rfl) rfl ?_
  refine x_court hX hG (fun h1 f1 X1 => ?_)
  refine m_court (hM.x f1) hG (fun h2 f2 M2 => ?_)
  refine And.intro (fun _ => ?_) (fun c => absurd rfl c)
  exact nx h2 _ (X1.m f2.1) M2 (k_court hG)
theorem o_about (hX : RX h S) (hM : RM h S) (hG : RG S) (hn : S 12 1 ≤ n) (h4 : 4 * n + 4 ≤ L) (hL : L ≤ 256) (nx : ∀ h' S', RX h' S' → RM h' S' → Kp S S' → qAt (d + 10, 138, some .boolean, (L + 1, xs), K) 419 [some (.ref 99), some (.ref 0), some (.ref 15), some (.int (nI (4 * n)))] [] h') : qAt (d + 10, 138, some .boolean, (L + 1, xs), K) 60 [some (.ref 99), some (.ref 0), some (.ref 15), some (.int (nI (4 * n)))] [] h := by
  refine at_wp [419] 120 (Nat.le_of_ble_eq_true rfl) rfl ?_
  refine And.intro (lw_in 1 h4 hL (by decide)) ?_
  refine And.intro (lw_in 2 h4 hL (by decide)) ?_
  refine x_about hX hG ?_
  refine And.intro (lw_in 1 h4 hL (by decide)) ?_
  refine And.intro (lw_in 2 h4 hL (by decide)) ?_
  refine m_about hM hG ?_
  refine And.intro (fun _ => ?_) (fun c => absurd rfl c)
  exact nx h S hX hM (Kp.rf hG)
theorem o_as (hX : RX h S) (hM : RM h S) (hG : RG S) (hn : S 12 1 ≤ n) (h4 : 4 * n + 4 ≤ L) (hL : L ≤ 256) (nx : ∀ h' S', RX h' S' → RM h' S' → Kp S S' → qAt (d + 10, 138, some .boolean, (L + 1, xs), K) 419 [some (.ref 99), some (.ref 0), some (.ref 15), some (.int (nI (4 * n)))] [] h') : qAt (d + 10, 138, some .boolean, (L + 1, xs), K) 87 [some (.ref 99), some (.ref 0), some (.ref 15), some (.int (nI (4 * n)))] [] h := by
  refine at_wp [419] 120 (Nat.le_of_ble_eq_true rfl) rfl ?_
  refine And.intro (lw_in 1 h4 hL (by decide)) ?_
  refine And.intro (lw_in 2 h4 hL (by decide)) ?_
  refine x_as hX hG ?_
  refine And.intro (lw_in 1 h4 hL (by decide)) ?_
  refine And.intro (lw_in 2 h4 hL (by decide)) ?_
  refine m_as hM hG ?_
  refine And.intro (fun _ => ?_) (fun c => absurd rfl c)
  exact nx h S hX hM (Kp.rf hG)
theorem o_sign (hX : RX h S) (hM : RM h S) (hG : RG S) (hn : S 12 1 ≤ n) (h4 : 4 * n + 4 ≤ L) (hL : L ≤ 256) (nx : ∀ h' S', RX h' S' → RM h' S' → Kp S S' → qAt (d + 10, 138, some .boolean, (L + 1, xs), K) 419 [some (.ref 99), some (.ref 0), some (.ref 15), some (.int (nI (4 * n)))] [] h') : qAt (d + 10, 138, some .boolean, (L + 1, xs), K) 114 [some (.ref 99), some (.ref 0), some (.ref 15), some (.int (nI (4 * n)))] [] h := by
  refine at_wp [419] 120 (Nat.le_of_ble_eq_true rfl) rfl ?_
  refine And.intro (lw_in 1 h4 hL (by decide)) ?_
  refine x_sign hX hG ?_
  refine And.intro (lw_in 1 h4 hL (by decide)) ?_
  refine m_sign hM hG ?_
  refine And.intro (fun _ => ?_) (fun c => absurd rfl c)
  exact nx h S hX hM (Kp.rf hG)
theorem o_forbid (hX : RX h S) (hM : RM h S) (hG : RG S) (hn : S 12 1 ≤ n) (h4 : 4 * n + 4 ≤ L) (hL : L ≤ 256) (nx : ∀ h' S', RX h' S' → RM h' S' → Kp S S' → qAt (d + 10, 138, some .boolean, (L + 1, xs), K) 419 [some (.ref 99), some (.ref 0), some (.ref 15), some (.int (nI (4 * n)))] [] h') : qAt (d + 10, 138, some .boolean, (L + 1, xs), K) 131 [some (.ref 99), some (.ref 0), some (.ref 15), some (.int (nI (4 * n)))] [] h := by
  refine at_wp [419] 120 (Nat.le_of_ble_eq_true rfl) rfl ?_
  refine And.intro (lw_in 1 h4 hL (by decide)) ?_
  refine And.intro (lw_in 2 h4 hL (by decide)) ?_
  refine And.intro (fun z => ?_) (fun z => ?_)
  · refine x_forbid (is := false) hX hG (fun h1 f1 X1 => ?_)
    refine And.intro (lw_in 1 h4 hL (by decide)) ?_
    refine And.intro (lw_in 2 h4 hL (by decide)) ?_
    refine And.intro (fun _ => ?_) (fun c => absurd z c)
    refine m_forbid (is := false) (hM.x f1) hG (fun h2 f2 M2 => ?_)
    refine And.intro (fun _ => ?_) (fun c => absurd rfl c)
    exact nx h2 _ (X1.m f2.1) M2 (k_forbid hG _ _)
  · refine x_forbid (is := true) hX hG (fun h1 f1 X1 => ?_)
    refine And.intro (lw_in 1 h4 hL (by decide)) ?_
    refine And.intro (lw_in 2 h4 hL (by decide)) ?_
    refine And.intro (fun c => absurd c z) (fun _ => ?_)
    refine m_forbid (is := true) (hM.x f1) hG (fun h2 f2 M2 => ?_)
    refine And.intro (fun _ => ?_) (fun c => absurd rfl c)
    exact nx h2 _ (X1.m f2.1) M2 (k_forbid hG _ _)
theorem o_tell (hX : RX h S) (hM : RM h S) (hG : RG S) (hn : S 12 1 ≤ n) (h4 : 4 * n + 4 ≤ L) (hL : L ≤ 256) (nx : ∀ h' S', RX h' S' → RM h' S' → Kp S S' → qAt (d + 10, 138, some .boolean, (L + 1, xs), K) 419 [some (.ref 99), some (.ref 0), some (.ref 15), some (.int (nI (4 * n)))] [] h') : qAt (d + 10, 138, some .boolean, (L + 1, xs), K) 166 [some (.ref 99), some (.ref 0), some (.ref 15), some (.int (nI (4 * n)))] [] h := by
  refine at_wp [419] 120 (Nat.le_of_ble_eq_true rfl) rfl ?_
  refine And.intro (lw_in 1 h4 hL (by decide)) ?_
  refine And.intro (lw_in 2 h4 hL (by decide)) ?_
  refine And.intro (lw_in 3 h4 hL (by decide)) ?_
  refine x_tell hX hG (fun h1 f1 X1 => ?_)
  refine And.intro (lw_in 1 h4 hL (by decide)) ?_
  refine And.intro (lw_in 2 h4 hL (by decide)) ?_
  refine And.intro (lw_in 3 h4 hL (by decide)) ?_
  refine m_tell (hM.x f1) hG (fun h2 f2 M2 => ?_)
  refine And.intro (fun _ => ?_) (fun c => absurd rfl c)
  exact nx h2 _ (X1.m f2.1) M2 (k_tell hG _ _ _)
theorem o_plan (hX : RX h S) (hM : RM h S) (hG : RG S) (hn : S 12 1 ≤ n) (h4 : 4 * n + 4 ≤ L) (hL : L ≤ 256) (nx : ∀ h' S', RX h' S' → RM h' S' → Kp S S' → qAt (d + 10, 138, some .boolean, (L + 1, xs), K) 419 [some (.ref 99), some (.ref 0), some (.ref 15), some (.int (nI (4 * n)))] [] h') : qAt (d + 10, 138, some .boolean, (L + 1, xs), K) 203 [some (.ref 99), some (.ref 0), some (.ref 15), some (.int (nI (4 * n)))] [] h := by
  refine at_wp [419] 120 (Nat.le_of_ble_eq_true rfl) rfl ?_
  refine And.intro (lw_in 1 h4 hL (by decide)) ?_
  refine And.intro (lw_in 2 h4 hL (by decide)) ?_
  refine x_plan hX hG (fun h1 f1 X1 => ?_)
  refine And.intro (lw_in 1 h4 hL (by decide)) ?_
  refine And.intro (lw_in 2 h4 hL (by decide)) ?_
  refine m_plan (hM.x f1) hG (fun h2 f2 M2 => ?_)
  refine And.intro (fun _ => ?_) (fun c => absurd rfl c)
  exact nx h2 _ (X1.m f2.1) M2 (k_plan hG _ _)
theorem o_safe (hX : RX h S) (hM : RM h S) (hG : RG S) (hn : S 12 1 ≤ n) (h4 : 4 * n + 4 ≤ L) (hL : L ≤ 256) (nx : ∀ h' S', RX h' S' → RM h' S' → Kp S S' → qAt (d + 10, 138, some .boolean, (L + 1, xs), K) 419 [some (.ref 99), some (.ref 0), some (.ref 15), some (.int (nI (4 * n)))] [] h') : qAt (d + 10, 138, some .boolean, (L + 1, xs), K) 230 [some (.ref 99), some (.ref 0), some (.ref 15), some (.int (nI (4 * n)))] [] h := by
  refine at_wp [419] 120 (Nat.le_of_ble_eq_true rfl) rfl ?_
  refine And.intro (lw_in 1 h4 hL (by decide)) ?_
  refine And.intro (lw_in 2 h4 hL (by decide)) ?_
  refine x_safe hX hG ?_
  refine And.intro (lw_in 1 h4 hL (by decide)) ?_
  refine And.intro (lw_in 2 h4 hL (by decide)) ?_
  refine m_safe hM hG ?_
  refine And.intro (fun _ => ?_) (fun c => absurd rfl c)
  exact nx h S hX hM (Kp.rf hG)
theorem o_ask (hX : RX h S) (hM : RM h S) (hG : RG S) (hn : S 12 1 ≤ n) (h4 : 4 * n + 4 ≤ L) (hL : L ≤ 256) (nx : ∀ h' S', RX h' S' → RM h' S' → Kp S S' → qAt (d + 10, 138, some .boolean, (L + 1, xs), K) 419 [some (.ref 99), some (.ref 0), some (.ref 15), some (.int (nI (4 * n)))] [] h') : qAt (d + 10, 138, some .boolean, (L + 1, xs), K) 257 [some (.ref 99), some (.ref 0), some (.ref 15), some (.int (nI (4 * n)))] [] h := by
  refine at_wp [419] 120 (Nat.le_of_ble_eq_true rfl) rfl ?_
  refine And.intro (lw_in 1 h4 hL (by decide)) ?_
  refine And.intro (lw_in 2 h4 hL (by decide)) ?_
  refine And.intro (lw_in 3 h4 hL (by decide)) ?_
  refine And.intro (fun z => ?_) (fun z => ?_)
  · refine x_ask (so := false) hX hG (fun h1 f1 X1 => ?_)
    refine And.intro (lw_in 1 h4 hL (by decide)) ?_
    refine And.intro (lw_in 2 h4 hL (by decide)) ?_
    refine And.intro (lw_in 3 h4 hL (by decide)) ?_
    refine And.intro (fun _ => ?_) (fun c => absurd z c)
    refine m_ask (so := false) (hM.x f1) hG (fun h2 f2 M2 => ?_)
    refine And.intro (fun _ => ?_) (fun c => absurd rfl c)
    exact nx h2 _ (X1.m f2.1) M2 (k_ask hG _ _ _)
  · refine x_ask (so := true) hX hG (fun h1 f1 X1 => ?_)
    refine And.intro (lw_in 1 h4 hL (by decide)) ?_
    refine And.intro (lw_in 2 h4 hL (by decide)) ?_
    refine And.intro (lw_in 3 h4 hL (by decide)) ?_
    refine And.intro (fun c => absurd c z) (fun _ => ?_)
    refine m_ask (so := true) (hM.x f1) hG (fun h2 f2 M2 => ?_)
    refine And.intro (fun _ => ?_) (fun c => absurd rfl c)
    exact nx h2 _ (X1.m f2.1) M2 (k_ask hG _ _ _)
theorem o_forget (hX : RX h S) (hM : RM h S) (hG : RG S) (hn : S 12 1 ≤ n) (h4 : 4 * n + 4 ≤ L) (hL : L ≤ 256) (nx : ∀ h' S', RX h' S' → RM h' S' → Kp S S' → qAt (d + 10, 138, some .boolean, (L + 1, xs), K) 419 [some (.ref 99), some (.ref 0), some (.ref 15), some (.int (nI (4 * n)))] [] h') : qAt (d + 10, 138, some .boolean, (L + 1, xs), K) 302 [some (.ref 99), some (.ref 0), some (.ref 15), some (.int (nI (4 * n)))] [] h := by
  refine at_wp [419] 120 (Nat.le_of_ble_eq_true rfl) rfl ?_
  refine x_forget hX (fun h1 f1 X1 => ?_)
  refine m_forget (hM.x f1) (fun h2 f2 M2 => ?_)
  refine And.intro (fun _ => ?_) (fun c => absurd rfl c)
  exact nx h2 _ (X1.m f2.1) M2 (k_forget hG)
theorem o_tells (hX : RX h S) (hM : RM h S) (hG : RG S) (hn : S 12 1 ≤ n) (h4 : 4 * n + 4 ≤ L) (hL : L ≤ 256) (nx : ∀ h' S', RX h' S' → RM h' S' → Kp S S' → qAt (d + 10, 138, some .boolean, (L + 1, xs), K) 419 [some (.ref 99), some (.ref 0), some (.ref 15), some (.int (nI (4 * n)))] [] h') : qAt (d + 10, 138, some .boolean, (L + 1, xs), K) 309 [some (.ref 99), some (.ref 0), some (.ref 15), some (.int (nI (4 * n)))] [] h := by
  refine at_wp [419] 120 (Nat.le_of_ble_eq_true rfl) rfl ?_
  refine And.intro (lw_in 1 h4 hL (by decide)) ?_
  refine x_tells hX hG ?_
  refine And.intro (lw_in 1 h4 hL (by decide)) ?_
  refine m_tells hM hG ?_
  refine And.intro (fun _ => ?_) (fun c => absurd rfl c)
  exact nx h S hX hM (Kp.rf hG)
theorem o_next (hX : RX h S) (hM : RM h S) (hG : RG S) (hn : S 12 1 ≤ n) (h4 : 4 * n + 4 ≤ L) (hL : L ≤ 256) (nx : ∀ h' S', RX h' S' → RM h' S' → Kp S S' → qAt (d + 10, 138, some .boolean, (L + 1, xs), K) 419 [some (.ref 99), some (.ref 0), some (.ref 15), some (.int (nI (4 * n)))] [] h') : qAt (d + 10, 138, some .boolean, (L + 1, xs), K) 326 [some (.ref 99), some (.ref 0), some (.ref 15), some (.int (nI (4 * n)))] [] h := by
  refine at_wp [419] 120 (Nat.le_of_ble_eq_true rfl) rfl ?_
  refine And.intro (lw_in 1 h4 hL (by decide)) ?_
  refine x_next hX hG ?_
  refine And.intro (lw_in 1 h4 hL (by decide)) ?_
  refine m_next hM hG ?_
  refine And.intro (fun _ => ?_) (fun c => absurd rfl c)
  exact nx h S hX hM (Kp.rf hG)
theorem o_audiences (hX : RX h S) (hM : RM h S) (hG : RG S) (hn : S 12 1 ≤ n) (h4 : 4 * n + 4 ≤ L) (hL : L ≤ 256) (nx : ∀ h' S', RX h' S' → RM h' S' → Kp S S' → qAt (d + 10, 138, some .boolean, (L + 1, xs), K) 419 [some (.ref 99), some (.ref 0), some (.ref 15), some (.int (nI (4 * n)))] [] h') : qAt (d + 10, 138, some .boolean, (L + 1, xs), K) 343 [some (.ref 99), some (.ref 0), some (.ref 15), some (.int (nI (4 * n)))] [] h := by
  refine at_wp [419] 120 (Nat.le_of_ble_eq_true rfl) rfl ?_
  refine And.intro (lw_in 1 h4 hL (by decide)) ?_
  refine And.intro (lw_in 2 h4 hL (by decide)) ?_
  refine And.intro (lw_in 3 h4 hL (by decide)) ?_
  refine x_audiences hX hG (fun h1 f1 X1 => ?_)
  refine And.intro (lw_in 1 h4 hL (by decide)) ?_
  refine And.intro (lw_in 2 h4 hL (by decide)) ?_
  refine And.intro (lw_in 3 h4 hL (by decide)) ?_
  refine m_audiences (hM.x f1) hG (fun h2 f2 M2 => ?_)
  refine And.intro (fun _ => ?_) (fun c => absurd rfl c)
  exact nx h2 S (X1.m f2) M2 (Kp.rf hG)
theorem o_image (hX : RX h S) (hM : RM h S) (hG : RG S) (hn : S 12 1 ≤ n) (h4 : 4 * n + 4 ≤ L) (hL : L ≤ 256) (nx : ∀ h' S', RX h' S' → RM h' S' → Kp S S' → qAt (d + 10, 138, some .boolean, (L + 1, xs), K) 419 [some (.ref 99), some (.ref 0), some (.ref 15), some (.int (nI (4 * n)))] [] h') : qAt (d + 10, 138, some .boolean, (L + 1, xs), K) 380 [some (.ref 99), some (.ref 0), some (.ref 15), some (.int (nI (4 * n)))] [] h := by
  refine at_wp [419] 120 (Nat.le_of_ble_eq_true rfl) rfl ?_
  refine x_image hX hG (fun h1 f1 X1 => ?_)
  refine m_image (hM.x f1) hG (fun h2 f2 M2 => ?_)
  refine And.intro (fun _ => ?_) (fun c => absurd rfl c)
  exact nx h2 _ (X1.m f2.1) M2 (k_image hG)
theorem o_restore (hX : RX h S) (hM : RM h S) (hG : RG S) (hn : S 12 1 ≤ n) (h4 : 4 * n + 4 ≤ L) (hL : L ≤ 256) (nx : ∀ h' S', RX h' S' → RM h' S' → Kp S S' → qAt (d + 10, 138, some .boolean, (L + 1, xs), K) 419 [some (.ref 99), some (.ref 0), some (.ref 15), some (.int (nI (4 * n)))] [] h') : qAt (d + 10, 138, some .boolean, (L + 1, xs), K) 387 [some (.ref 99), some (.ref 0), some (.ref 15), some (.int (nI (4 * n)))] [] h := by
  refine at_wp [419] 120 (Nat.le_of_ble_eq_true rfl) rfl ?_
  refine x_restore hX hG (fun h1 f1 X1 => ?_)
  refine m_restore (hM.x f1) hG (by omega) (fun h2 f2 M2 => ?_)
  refine And.intro (fun _ => ?_) (fun c => absurd rfl c)
  exact nx h2 _ (X1.m f2.1) M2 (k_restore hG)
theorem o_count (hX : RX h S) (hM : RM h S) (hG : RG S) (hn : S 12 1 ≤ n) (h4 : 4 * n + 4 ≤ L) (hL : L ≤ 256) (nx : ∀ h' S', RX h' S' → RM h' S' → Kp S S' → qAt (d + 10, 138, some .boolean, (L + 1, xs), K) 419 [some (.ref 99), some (.ref 0), some (.ref 15), some (.int (nI (4 * n)))] [] h') : qAt (d + 10, 138, some .boolean, (L + 1, xs), K) 394 [some (.ref 99), some (.ref 0), some (.ref 15), some (.int (nI (4 * n)))] [] h := by
  refine at_wp [419] 120 (Nat.le_of_ble_eq_true rfl) rfl ?_
  refine And.intro (lw_in 1 h4 hL (by decide)) ?_
  refine x_count hX hG ?_
  refine And.intro (lw_in 1 h4 hL (by decide)) ?_
  refine m_count hM hG ?_
  refine And.intro (fun _ => ?_) (fun c => absurd rfl c)
  exact nx h S hX hM (Kp.rf hG)
theorem o_digest (hX : RX h S) (hM : RM h S) (hG : RG S) (hn : S 12 1 ≤ n) (h4 : 4 * n + 4 ≤ L) (hL : L ≤ 256) (nx : ∀ h' S', RX h' S' → RM h' S' → Kp S S' → qAt (d + 10, 138, some .boolean, (L + 1, xs), K) 419 [some (.ref 99), some (.ref 0), some (.ref 15), some (.int (nI (4 * n)))] [] h') : qAt (d + 10, 138, some .boolean, (L + 1, xs), K) 411 [some (.ref 99), some (.ref 0), some (.ref 15), some (.int (nI (4 * n)))] [] h := by
  refine at_wp [419] 120 (Nat.le_of_ble_eq_true rfl) rfl ?_
  refine x_digest hX hG ?_
  refine m_digest hM hG (fun h2 e2 => ?_)
  refine And.intro (fun _ => ?_) (fun c => absurd ((lg_cmp_eq _ _).mpr rfl) c)
  exact nx h2 S (hX.keep (fun a _ => by rw [e2])) (hM.keep (fun a _ => by rw [e2])) (Kp.rf hG)
theorem l_law (hL : L ≤ 256) (hk : ∀ h', K (some (.int 1)) h') : ∀ m n, L < 4 * n + 4 + 4 * m → ∀ h S, RX h S → RM h S → RG S → S 12 1 ≤ n → n ≤ 64 → qAt (d + 10, 138, some .boolean, (L + 1, xs), K) 10 [some (.ref 99), some (.ref 0), some (.ref 15), some (.int (nI (4 * n)))] [] h := by
  intro m
  have ex : ∀ n, L < 4 * n + 4 → n ≤ 64 → ∀ h, qAt (d + 10, 138, some .boolean, (L + 1, xs), K) 10 [some (.ref 99), some (.ref 0), some (.ref 15), some (.int (nI (4 * n)))] [] h := by
    intro n hn h64 h
    refine at_wp [] 30 (Nat.le_of_ble_eq_true rfl) rfl ?_
    refine And.intro (Nat.succ_ne_zero L) ?_
    refine And.intro (fun _ => ⟨Or.inr rfl, hk h⟩) (fun c => absurd ?_ c)
    show nI L - nI 4 < nI (4 * n)
    rw [Int32.lt_iff_toInt_lt, pk_sub_toInt (by omega) (by omega), nI_toInt (by omega)]
    omega
  induction m with
  | zero => exact fun n hn h S _ _ _ _ h64 => ex n (by omega) h64 h
  | succ m ih =>
    intro n hn h S hX hM hG hc h64
    by_cases h4 : 4 * n + 4 ≤ L
    · have nx : ∀ h' S', RX h' S' → RM h' S' → Kp S S' → qAt (d + 10, 138, some .boolean, (L + 1, xs), K) 419 [some (.ref 99), some (.ref 0), some (.ref 15), some (.int (nI (4 * n)))] [] h' := by
        intro h' S' X' M' kp
        have := ih (n + 1) (by omega) h' S' X' M' kp.1 (by have := kp.2; omega) (by omega)
        rw [show 4 * (n + 1) = 4 * n + 4 by omega, ← nI_add (4 * n) 4] at this
        refine at_wp [10] 10 (Nat.le_of_ble_eq_true rfl) rfl ?_
        exact this
      refine at_wp [22,39,46,53,60,87,114,131,166,203,230,257,302,309,326,343,380,387,394,411,419] 30 (Nat.le_of_ble_eq_true rfl) rfl ?_
      refine And.intro (Nat.succ_ne_zero L) ?_
      refine And.intro (fun c => absurd (show nI L - nI 4 < nI (4 * n) from c) (by rw [pk_sub (by omega)]; exact nI_nlt (by omega) (by omega))) (fun _ => ?_)
      refine And.intro (vp_in_nI (N := L + 1 - 1) (by omega) (by omega)) ?_
      refine And.intro (fun _ => o_letter hX hM hG hc h4 hL nx) (fun _ => ?_)
      refine And.intro (fun _ => o_blank hX hM hG hc h4 hL nx) (fun _ => ?_)
      refine And.intro (fun _ => o_fault hX hM hG hc h4 hL nx) (fun _ => ?_)
      refine And.intro (fun _ => o_court hX hM hG hc h4 hL nx) (fun _ => ?_)
      refine And.intro (fun _ => o_about hX hM hG hc h4 hL nx) (fun _ => ?_)
      refine And.intro (fun _ => o_as hX hM hG hc h4 hL nx) (fun _ => ?_)
      refine And.intro (fun _ => o_sign hX hM hG hc h4 hL nx) (fun _ => ?_)
      refine And.intro (fun _ => o_forbid hX hM hG hc h4 hL nx) (fun _ => ?_)
      refine And.intro (fun _ => o_tell hX hM hG hc h4 hL nx) (fun _ => ?_)
      refine And.intro (fun _ => o_plan hX hM hG hc h4 hL nx) (fun _ => ?_)
      refine And.intro (fun _ => o_safe hX hM hG hc h4 hL nx) (fun _ => ?_)
      refine And.intro (fun _ => o_ask hX hM hG hc h4 hL nx) (fun _ => ?_)
      refine And.intro (fun _ => o_forget hX hM hG hc h4 hL nx) (fun _ => ?_)
      refine And.intro (fun _ => o_tells hX hM hG hc h4 hL nx) (fun _ => ?_)
      refine And.intro (fun _ => o_next hX hM hG hc h4 hL nx) (fun _ => ?_)
      refine And.intro (fun _ => o_audiences hX hM hG hc h4 hL nx) (fun _ => ?_)
      refine And.intro (fun _ => o_image hX hM hG hc h4 hL nx) (fun _ => ?_)
      refine And.intro (fun _ => o_restore hX hM hG hc h4 hL nx) (fun _ => ?_)
      refine And.intro (fun _ => o_count hX hM hG hc h4 hL nx) (fun _ => ?_)
      refine And.intro (fun _ => o_digest hX hM hG hc h4 hL nx) (fun _ => ?_)
      exact nx h S hX hM (Kp.rf hG)
    · exact ex n (by omega) h64 h
end QLL
end
